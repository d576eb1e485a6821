import java.util.List;

/** The boundary cases of the document's "Terms", a sentence at a time. */
public final class TermsTest {
    private static final Shape[] SHAPES = {new Shape(1, 1), new Shape(2, 1), new Shape(3, 1), new Shape(4, 1),
        new Shape(5, 1), new Shape(6, 1), new Shape(7, 1), new Shape(1, 2), new Shape(1, 3), new Shape(1, 4),
        new Shape(1, 5), new Shape(2, 2), new Shape(4, 2), new Shape(6, 4), new Shape(7, 5)};

    private final Check check = new Check();

    public static void main(String[] args) {
        TermsTest test = new TermsTest();
        test.notFullAtFirst();
        test.headingsOfFourAndEight();
        test.carAtFirst();
        test.coveredCells();
        test.coveredCellsInTheField();
        test.smallestFieldForTheGreatestCar();
        test.keptCells();
        test.keptCellsAtTheEdges();
        test.headingsGoRound();
        test.movesAtTheEdges();
        test.neededCells();
        test.fewestMoves();
        test.leastLengths();
        test.leastNumbers();
        test.atTheGoal();
        test.goalNotFree();
        test.takenInOrder();
        test.takenInOrderOfEight();
        test.allTaken();
        test.eachTakenOnce();
        test.zeroSteps();
        test.atFirst();
        test.firstRefusalThatFits();
        test.lastOfAllCalls();
        test.check.end("TermsTest");
    }

    private static ParkWays withCar(ParkWays x, Shape shape, int radius) {
        x.car(shape.length, shape.wide, radius);
        return x;
    }

    private static String told(int[] place) {
        return "(" + place[0] + ", " + place[1] + ", " + place[2] + ")";
    }

    private void notFullAtFirst() {
        check.begin("a cell is FULL, or not (at first)");
        ParkWays x = new ParkWays(24, 21, 8);
        for (int i = 0; i < 24 * 21; i++) {
            check.due("cell " + i + " not full, as before", x.cell(i % 24, i / 24, false), 0);
        }
    }

    private void headingsOfFourAndEight() {
        check.begin("HEADINGS are 0 to 7; of a FIELD with four only 0, 2, 4, 6");
        ParkWays eight = new ParkWays(3, 3, 8);
        ParkWays four = new ParkWays(3, 3, 4);
        for (int h = 0; h < 8; h++) {
            check.due("of eight, " + h, eight.stand(1, 1, h), 1);
            check.due("of four, " + h, four.stand(1, 1, h), h == 0 || h == 2 || h == 4 || h == 6 ? 1 : -2);
        }
        for (int h : new int[] {-1, -2, -8, 8, 10, 16}) {
            check.due("of eight, " + h, eight.stand(1, 1, h), -2);
            check.due("of four, " + h, four.stand(1, 1, h), -2);
        }
    }

    private void carAtFirst() {
        check.begin("a LENGTH, a WIDTH and a RADIUS (each at first 1)");
        for (int h = 0; h < 8; h++) {
            ParkWays x = new ParkWays(3, 3, 8);
            for (int i = 0; i < 9; i++) {
                x.cell(i % 3, i / 3, i != 4);
            }
            check.due("between eight full cells, heading " + h, x.stand(1, 1, h), 1);
        }
        ParkWays y = Scene.fromTo(new ParkWays(2, 2, 4), Scene.place(0, 0, 0), Scene.place(1, 1, 2));
        check.dueWay(y, 2);
        // margin() looks at the same cells: one is next to the full cell, and none nearer.
        ParkWays z = Scene.fromTo(new ParkWays(9, 9, 8), Scene.place(4, 4, 0), Scene.place(5, 4, 0));
        z.way(Scene.ALL);
        z.follow(1, 0.0);
        for (int[] full : new int[][] {{3, 4}, {7, 4}, {5, 2}, {5, 6}}) {
            z.change(full[0], full[1], true);
            check.due("two from the full cell", z.margin(0), 2);
            z.change(full[0], full[1], false);
        }
    }

    private void coveredCells() {
        check.begin("it COVERS (x, y) + i s + j t, t two HEADINGS further on (of 6, 7: 0, 1), i and j whole");
        for (Shape shape : SHAPES) {
            for (int h = 0; h < 8; h++) {
                dueCovered(shape, Scene.place(5, 5, h));
            }
        }
    }

    private void dueCovered(Shape shape, int[] place) {
        boolean[][] covered = shape.needed(List.of(place), 11, 11);
        for (int i = 0; i < 11 * 11; i++) {
            ParkWays x = withCar(new ParkWays(11, 11, 8), shape, 1);
            x.cell(i % 11, i / 11, true);
            check.due(shape.length + " by " + shape.wide + " at " + told(place) + ", cell " + i + " full",
                    x.stand(place[0], place[1], place[2]), covered[i % 11][i / 11] ? -3 : 1);
        }
    }

    private void coveredCellsInTheField() {
        check.begin("FREE if all cells that it COVERS are in the FIELD");
        for (Shape shape : SHAPES) {
            for (int h = 0; h < 8; h++) {
                ParkWays x = withCar(new ParkWays(13, 12, 8), shape, 1);
                for (int i = 0; i < 13 * 12; i++) {
                    int[] place = Scene.place(i % 13, i / 13, h);
                    check.due(shape.length + " by " + shape.wide + " at " + told(place),
                            x.stand(place[0], place[1], h), shape.fits(place, 13, 12) ? 1 : -3);
                }
            }
        }
    }

    private void smallestFieldForTheGreatestCar() {
        check.begin("all cells that it COVERS are in the FIELD, one PLACE alone");
        ParkWays x = new ParkWays(7, 5, 8);
        x.car(7, 5, 4);
        for (int i = 0; i < 7 * 5; i++) {
            check.due("heading 0, cell " + i, x.stand(i % 7, i / 7, 0), i == 17 ? 1 : -3);
            check.due("heading 4, cell " + i, x.stand(i % 7, i / 7, 4), i == 17 ? 1 : -3);
            check.due("heading 2, cell " + i, x.stand(i % 7, i / 7, 2), -3);
            check.due("heading 1, cell " + i, x.stand(i % 7, i / 7, 1), -3);
        }
    }

    private void keptCells() {
        check.begin("no FULL cell within KEEP (at first 0) of one of these, in x and in y");
        for (int keep = 0; keep <= 3; keep++) {
            for (Shape shape : new Shape[] {new Shape(1, 1), new Shape(3, 2)}) {
                for (int h = 0; h < 8; h++) {
                    dueKept(keep, shape, h);
                }
            }
        }
        ParkWays x = new ParkWays(3, 3, 8);
        x.cell(1, 1, true);
        check.due("at first: beside the full cell", x.stand(0, 1, 0), 1);
        check.due("at first: on it", x.stand(1, 1, 0), -3);
    }

    private void dueKept(int keep, Shape shape, int heading) {
        ParkWays x = withCar(new ParkWays(17, 17, 8), shape, 1);
        x.cell(8, 8, true);
        x.keep(keep);
        for (int i = 0; i < 13 * 13; i++) {
            int[] place = Scene.place(2 + i % 13, 2 + i / 13, heading);
            check.due("keep " + keep + ", " + shape.length + " by " + shape.wide + " at " + told(place),
                    x.stand(place[0], place[1], heading), shape.distance(place, 8, 8) <= keep ? -3 : 1);
        }
    }

    private void keptCellsAtTheEdges() {
        check.begin("no FULL cell of the FIELD is within KEEP, at its edges");
        int[][] corners = {{0, 0}, {9, 0}, {0, 6}, {9, 6}};
        for (int[] corner : corners) {
            ParkWays x = new ParkWays(10, 7, 8);
            x.keep(3);
            check.due("no cell outside the field is full", x.stand(corner[0], corner[1], 0), 1);
            ParkWays before = new ParkWays(10, 7, 8);
            before.cell(corner[0], corner[1], true);
            before.keep(3);
            x.cell(corner[0], corner[1], true);
            Shape one = new Shape(1, 1);
            for (int i = 0; i < 10 * 7; i++) {
                int[] place = Scene.place(i % 10, i / 10, 0);
                int due = one.distance(place, corner[0], corner[1]) <= 3 ? -3 : 1;
                check.due("full first, " + told(place), before.stand(place[0], place[1], 0), due);
                check.due("kept first, " + told(place), x.stand(place[0], place[1], 0), due);
            }
            x.cell(corner[0], corner[1], false);
            check.due("full no more", x.stand(corner[0], corner[1], 0), 1);
            before.keep(0);
            check.due("kept no more, on it", before.stand(corner[0], corner[1], 0), -3);
            check.due("kept no more, beside it", before.stand(corner[0] == 0 ? 1 : 8, corner[1], 0), 1);
            before.keep(2);
            before.cell(corner[0], corner[1], false);
            check.due("kept, then full no more", before.stand(corner[0], corner[1], 0), 1);
        }
    }

    private void headingsGoRound() {
        check.begin("the next HEADING, or the one before, going round (of four: 0, 2, 4, 6)");
        for (int radius = 1; radius <= 4; radius++) {
            for (int h = 0; h < 8; h++) {
                for (int move = 0; move < 6; move++) {
                    dueMove(radius, Scene.place(11, 11, h), move, false);
                    if (h % 2 == 0) {
                        dueMove(radius, Scene.place(11, 11, h), move, true);
                    }
                }
            }
        }
    }

    private void dueMove(int radius, int[] from, int move, boolean four) {
        List<int[]> places = Shape.placesOn(from, move, radius, four);
        int[] to = places.get(places.size() - 1);
        ParkWays x = withCar(new ParkWays(24, 24, four ? 4 : 8), new Shape(1, 1), radius);
        check.dueWay(Scene.fromTo(x, from, to), move);
        check.due("x behind " + move + " from " + told(from), x.move(0, 1), to[0]);
        check.due("y behind " + move + " from " + told(from), x.move(0, 2), to[1]);
        check.due("heading behind " + move + " from " + told(from), x.move(0, 3), to[2]);
    }

    private void movesAtTheEdges() {
        check.begin("all PLACES on it are FREE, at the edges of the FIELD");
        for (int radius = 1; radius <= 2; radius++) {
            for (int i = 0; i < 5 * 4 * 8 * 6; i++) {
                int[] from = Scene.place(i % 5, i / 5 % 4, i / 20 % 8);
                int move = i / 160;
                dueMoveInside(radius, from, move, false);
                if (from[2] % 2 == 0) {
                    dueMoveInside(radius, from, move, true);
                }
            }
        }
    }

    private void dueMoveInside(int radius, int[] from, int move, boolean four) {
        List<int[]> places = Shape.placesOn(from, move, radius, four);
        Shape one = new Shape(1, 1);
        boolean inside = true;
        for (int[] place : places) {
            inside = inside && one.fits(place, 5, 4);
        }
        if (inside) {
            ParkWays x = withCar(new ParkWays(5, 4, four ? 4 : 8), one, radius);
            check.dueWay(Scene.fromTo(x, from, places.get(places.size() - 1)), move);
        }
    }

    private void neededCells() {
        check.begin("a MOVE may be made if all PLACES on it, the first one, too, "
                + "and the one of the turn with either HEADING, are FREE");
        for (Shape shape : new Shape[] {new Shape(1, 1), new Shape(3, 1), new Shape(2, 2)}) {
            for (int h = 0; h < 8; h++) {
                for (int move = 0; move < 6; move++) {
                    dueNeeded(shape, Scene.place(7, 7, h), move, h % 2 == 0);
                }
            }
        }
        dueNeeded(new Shape(3, 1), Scene.place(7, 7, 0), 2, false);
        dueNeeded(new Shape(3, 1), Scene.place(7, 7, 6), 5, false);
    }

    /** With all other cells full the MOVE is made; with one of those that it needs full, it is not. */
    private void dueNeeded(Shape shape, int[] from, int move, boolean four) {
        List<int[]> places = Shape.placesOn(from, move, 2, four);
        boolean[][] needed = shape.needed(places, 15, 15);
        ParkWays bare = neededField(shape, places, four);
        for (int i = 0; i < 15 * 15; i++) {
            if (needed[i % 15][i / 15]) {
                ParkWays barred = neededField(shape, places, four);
                barred.cell(i % 15, i / 15, true);
                check.due("move " + move + " from " + told(from) + ", cell " + i + " full",
                        barred.way(Scene.ALL) == 1, false);
            } else {
                bare.cell(i % 15, i / 15, true);
            }
        }
        check.dueWay(bare, move);
    }

    private static ParkWays neededField(Shape shape, List<int[]> places, boolean four) {
        ParkWays x = withCar(new ParkWays(15, 15, four ? 4 : 8), shape, 2);
        return Scene.fromTo(x, places.get(0), places.get(places.size() - 1));
    }

    private void fewestMoves() {
        check.begin("THE WAY: the fewest MOVES");
        // Four arcs of length 8 lead 16 cells on: (4, 4, 2), (8, 0, 4), (12, 4, 6), (16, 0, 0).
        ParkWays x = new ParkWays(17, 5, 4);
        x.car(1, 1, 4);
        check.dueWay(Scene.fromTo(x, Scene.place(0, 0, 0), Scene.place(16, 0, 0)), 2, 4, 4, 2);
        // Up to three steps there is nothing shorter.
        check.dueWay(Scene.fromTo(x, Scene.place(0, 0, 0), Scene.place(3, 0, 0)), 0, 0, 0);
    }

    private void leastLengths() {
        check.begin("of these the least sum of LENGTHS (1, of arcs 2 RADIUS)");
        // 0, 2, 2, 3 leads there, too, with a lesser first number, but with 1 + 2 + 2 + 2, not 1 + 2 + 1 + 1.
        check.dueWay(Scene.fromTo(new ParkWays(9, 9, 4), Scene.place(4, 4, 0), Scene.place(4, 7, 2)), 1, 2, 0, 0);
        check.dueWay(Scene.fromTo(new ParkWays(9, 9, 4), Scene.place(4, 4, 0), Scene.place(4, 1, 6)), 1, 3, 0, 0);
        // Of eight: 0, 4, 5, 4 would do, with three arcs.
        ParkWays x = Scene.fromTo(new ParkWays(17, 17, 8), Scene.place(8, 8, 0), Scene.place(3, 5, 1));
        check.dueWay(x, 1, 4, 1, 1);
    }

    private void leastNumbers() {
        check.begin("of these the first MOVE of the least number, then the second, and so on");
        // All have two steps and two arcs: 0 0 4 2, 0 0 5 3, 0 4 2 1, 0 5 3 1, 1 1 2 4, 2 4 0 0 and others.
        int[] from = Scene.place(4, 4, 0);
        int[] to = Scene.place(4, 4, 4);
        check.dueWay(Scene.fromTo(new ParkWays(9, 9, 4), from, to), 0, 0, 4, 2);
        // 0 0 4 2 goes over (5, 3), by (6, 4): without that cell only the mirrored one of these two is left.
        ParkWays third = Scene.fromTo(new ParkWays(9, 9, 4), from, to);
        third.cell(5, 3, true);
        check.dueWay(third, 0, 0, 5, 3);
        ParkWays second = Scene.fromTo(new ParkWays(9, 9, 4), from, to);
        second.cell(6, 4, true);
        check.dueWay(second, 0, 4, 2, 1);
        ParkWays first = Scene.fromTo(new ParkWays(9, 9, 4), from, to);
        first.cell(5, 4, true);
        check.dueWay(first, 1, 1, 2, 4);
    }

    private void atTheGoal() {
        check.begin("at the GOAL: no MOVES");
        ParkWays x = Scene.fromTo(new ParkWays(5, 5, 8), Scene.place(2, 2, 3), Scene.place(2, 2, 3));
        check.dueWay(x);
        check.due("it is a way", x.follow(1, 0.0), 1);
        check.due("exact", x.exact(), true);
        x.stand(2, 2, 4);
        check.due("another heading is not the goal", x.way(Scene.ALL) > 0, true);
    }

    private void goalNotFree() {
        check.begin("if the GOAL is not FREE, there is none");
        for (int[] from : new int[][] {{3, 3, 0}, {1, 1, 0}}) {
            ParkWays full = Scene.fromTo(new ParkWays(7, 7, 8), from, Scene.place(3, 3, 0));
            full.cell(3, 3, true);
            dueNone("full, from " + told(from), full);
            ParkWays kept = Scene.fromTo(new ParkWays(7, 7, 8), from, Scene.place(3, 3, 0));
            kept.cell(5, 5, true);
            kept.keep(2);
            dueNone("a full cell within keep, from " + told(from), kept);
            kept.keep(1);
            check.due("not within keep", kept.way(Scene.ALL) >= 0 && kept.follow(1, 0.0) == 1, true);
        }
        ParkWays outside = Scene.fromTo(new ParkWays(7, 7, 8), Scene.place(2, 2, 0), Scene.place(0, 3, 0));
        outside.car(3, 1, 1);
        dueNone("it covers cells outside", outside);
        outside.stand(0, 3, 2);
        outside.car(1, 1, 1);
        check.due("outside no more", outside.way(Scene.ALL) > 0, true);
    }

    private void dueNone(String what, ParkWays x) {
        check.due(what + ": no way", x.way(Scene.ALL), 0);
        check.due(what + ": there is none", x.follow(1, 0.0), 0);
        check.due(what + ": not spent", x.exact(), true);
        check.due(what + ": no move", x.move(0, 0), -1);
    }

    private void takenInOrder() {
        check.begin("PLACES are taken by MOVES, LENGTHS, arcs, then by y, x, HEADING");
        int[][] order = {{4, 4, 0},
            {3, 4, 0}, {5, 4, 0},
            {3, 3, 2}, {5, 3, 6}, {3, 5, 6}, {5, 5, 2},
            {2, 4, 0}, {6, 4, 0},
            {3, 2, 2}, {5, 2, 6}, {2, 3, 2}, {4, 3, 2}, {4, 3, 6}, {6, 3, 6}, {3, 4, 2}, {3, 4, 6}, {5, 4, 2},
            {5, 4, 6}, {2, 5, 6}, {4, 5, 2}, {4, 5, 6}, {6, 5, 2}, {3, 6, 6}, {5, 6, 2}};
        int[] moves = {0, 1, 1, 1, 1, 1, 1, 2, 2, 2, 2, 2, 2, 2, 2, 2, 2, 2, 2, 2, 2, 2, 2, 2, 2};
        dueOrder(4, order, moves);
    }

    private void takenInOrderOfEight() {
        check.begin("PLACES are taken by y, x, HEADING, of eight");
        int[][] order = {{4, 4, 0},
            {3, 4, 0}, {5, 4, 0},
            {2, 3, 1}, {6, 3, 7}, {2, 5, 7}, {6, 5, 1},
            {2, 4, 0}, {6, 4, 0}};
        int[] moves = {0, 1, 1, 1, 1, 1, 1, 2, 2};
        dueOrder(8, order, moves);
    }

    /** THE CAR at the k-th PLACE is found with k steps, not with less. */
    private void dueOrder(int headings, int[][] order, int[] moves) {
        for (int k = 0; k < order.length; k++) {
            ParkWays x = Scene.fromTo(new ParkWays(9, 9, headings), order[k], order[0]);
            check.due(told(order[k]) + ", " + k + " steps", x.way(k), -1);
            check.due(told(order[k]) + ", " + k + " steps: spent", x.exact(), false);
            check.due(told(order[k]) + ", " + k + " steps: no way", x.follow(1, 0.0), 0);
            check.due(told(order[k]) + ", a step more", x.way(k + 1), moves[k]);
            check.due(told(order[k]) + ", a step more: not spent", x.exact(), true);
            check.due(told(order[k]) + ", a step more: a way", x.follow(1, 0.0), 1);
        }
    }

    private void allTaken() {
        check.begin("not among the first ones, as many as the steps told, and there are more: SPENT");
        // In a row of 8 with the goal at its end, the cell x is the (8 - x)-th that is taken.
        ParkWays x = Scene.fromTo(new ParkWays(8, 1, 8), Scene.place(0, 0, 0), Scene.place(7, 0, 0));
        check.due("the last one, a step too few", x.way(7), -1);
        check.due("the last one", x.way(8), 7);
        check.due("the last one, a step more", x.way(9), 7);
        // Behind a full cell there are four more that lead to the goal, and the car's is not among them.
        x.cell(3, 0, true);
        check.due("no way, there are more", x.way(3), -1);
        check.due("spent", x.exact(), false);
        check.due("no way, there are no more", x.way(4), 0);
        check.due("not spent", x.exact(), true);
        check.due("there is none", x.follow(1, 0.0), 0);
        check.due("no way, more steps than places", x.way(Long.MAX_VALUE), 0);
        check.due("not spent, too", x.exact(), true);
        // The car's own cell full: its place is none that leads to the goal.
        ParkWays full = Scene.fromTo(new ParkWays(8, 1, 8), Scene.place(5, 0, 0), Scene.place(7, 0, 0));
        full.cell(5, 0, true);
        check.due("on a full cell, there are more", full.way(1), -1);
        check.due("on a full cell, there are no more", full.way(2), 0);
        check.due("no way from a full cell", full.follow(1, 0.0), 0);
    }

    private void eachTakenOnce() {
        check.begin("PLACES are taken, each one once, however many ways lead from it");
        // Behind a wall stands the car; before it are 81 cells with four headings, or with eight. Of eight, two
        // in each of the four corners lead nowhere: (0, 0, 3) and (0, 0, 7), and so on.
        for (int headings = 4; headings <= 8; headings += 4) {
            int places = headings == 4 ? 81 * 4 : 81 * 8 - 8;
            for (int[] goal : new int[][] {{4, 4, 0}, {0, 0, 2}, {8, 8, 6}, {4, 7, 2}}) {
                ParkWays x = Scene.fromTo(new ParkWays(11, 9, headings), Scene.place(10, 0, 0), goal);
                for (int y = 0; y < 9; y++) {
                    x.cell(9, y, true);
                }
                check.due("all but one", x.way(places - 1), -1);
                check.due("there are more", x.exact(), false);
                check.due("all", x.way(places), 0);
                check.due("there are no more", x.exact(), true);
            }
        }
    }

    private void zeroSteps() {
        check.begin("with 0 steps it is SPENT at the GOAL, too");
        ParkWays x = new ParkWays(1, 1, 8);
        check.due("at the goal", x.way(0), -1);
        check.due("spent", x.exact(), false);
        check.due("no way then", x.follow(1, 0.0), 0);
        check.due("one step", x.way(1), 0);
        check.due("not spent", x.exact(), true);
        check.due("a way", x.follow(1, 0.0), 1);
        x.stand(0, 0, 4);
        check.due("elsewhere", x.way(0), -1);
        // No place leads to a goal that is not free: there are none more, even with no step.
        x.cell(0, 0, true);
        check.due("goal not free", x.way(0), 0);
        check.due("goal not free, not spent", x.exact(), true);
        check.due("goal not free, no way", x.follow(1, 0.0), 0);
    }

    private void atFirst() {
        check.begin("THE CAR is at first at (0, 0, 0), that is its HOME and the GOAL; somebody HOLDS on");
        ParkWays car = new ParkWays(3, 3, 8);
        check.due("a space", car.space(0, 3), 1);
        check.dueWay(car, 0);
        check.due("x behind it", car.move(0, 1), 1);
        check.due("y behind it", car.move(0, 2), 0);
        check.due("heading behind it", car.move(0, 3), 0);
        check.due("home is another place than the space", car.out(), 1);
        check.due("the car is at home", car.way(1), 0);
        check.due("so no more is taken", car.exact(), true);
        ParkWays goal = new ParkWays(4, 3, 8);
        goal.stand(2, 0, 0);
        check.dueWay(goal, 1, 1);
        check.due("x of the goal", goal.move(1, 1), 0);
        check.due("y of the goal", goal.move(1, 2), 0);
        check.due("heading of the goal", goal.move(1, 3), 0);
        check.due("somebody holds on", goal.follow(1, 0.0), 1);
        check.due("held, as before", goal.release(true), 0);
        ParkWays home = new ParkWays(4, 3, 8);
        check.due("home is the goal", home.out(), 0);
        check.due("error", Double.compare(home.error(), 0.0), 0);
        check.due("no search yet", home.exact(), false);
        check.due("no way yet", home.follow(1, 0.0), 0);
    }

    private void firstRefusalThatFits() {
        check.begin("REFUSALS answer the first that fits: -2 outside a range, -3 not in this state");
        ParkWays x = new ParkWays(4, 4, 4);
        x.cell(1, 1, true);
        check.due("no such heading, on a full cell", x.stand(1, 1, 8), -2);
        check.due("no such heading of four, on a full cell", x.stand(1, 1, 1), -2);
        check.due("a heading, on a full cell", x.stand(1, 1, 2), -3);
        x.car(7, 5, 1);
        check.due("no such cell, not free", x.stand(-1, 0, 0), -2);
        check.due("a cell, not free", x.stand(0, 0, 0), -3);
        check.due("n outside its range, without a way", x.follow(0, 0.0), -2);
        check.due("slip outside its range, without a way", x.follow(1, 1.5), -2);
        check.due("both", x.follow(1001, -1.5), -2);
        check.due("steps below 0, goal not free", x.way(-1), -2);
    }

    private void lastOfAllCalls() {
        check.begin("an object is used for at most 512 calls");
        ParkWays x = Scene.row();
        // Four calls made it; the 511th and the 512th are as good as the first.
        for (int call = 5; call <= 510; call++) {
            check.due("call " + call, x.change(7, 0, call % 2 == 1), 0);
        }
        check.due("call 511", x.follow(1000, 0.25), 1);
        // Six slips: 0.25, 0.5, -0.25, 0.0, 0.25, 0.5.
        check.dueDouble("call 512", x.error(), 0.5);
    }
}
