/** The boundary cases of the promises, a sentence at a time: too small, too large, empty, full, exactly at it. */
public final class BoundariesTest {
    private static final int LOWEST = Integer.MIN_VALUE;
    private static final int HIGHEST = Integer.MAX_VALUE;

    private final Check check = new Check();

    public static void main(String[] args) {
        BoundariesTest test = new BoundariesTest();
        test.sides();
        test.fourHeadings();
        test.cellAnswers();
        test.cellLeavesNoWay();
        test.noSuchCell();
        test.carSizes();
        test.carSizesOutside();
        test.keepRange();
        test.keepLeavesNoWay();
        test.standAtItsEdges();
        test.standIsHome();
        test.spaceRow();
        test.spaceLongEnough();
        test.spaceGoal();
        test.spaceNone();
        test.spaceLeast();
        test.out();
        test.wayAnswers();
        test.waySteps();
        test.moveRange();
        test.exactBefore();
        test.exactLast();
        test.followAll();
        test.followStopped();
        test.followWithoutMoves();
        test.followRange();
        test.errorAtItsBounds();
        test.errorAtFirst();
        test.changeOfMovesLeft();
        test.changeOfMovesMade();
        test.changeWithoutWay();
        test.changeFindsAnother();
        test.changeFindsNone();
        test.changeWithAsManySteps();
        test.changeWithinKeep();
        test.changeNoSuchCell();
        test.release();
        test.marginDistances();
        test.marginOfEachCell();
        test.marginRange();
        test.headingRange();
        test.check.end("BoundariesTest");
    }

    private static int[] place(int x, int y, int heading) {
        return Scene.place(x, y, heading);
    }

    private void dueSides(String told, ParkWays x, int width, int height) {
        check.due(told + ": the first corner", x.stand(0, 0, 0), 1);
        check.due(told + ": the last corner", x.stand(width - 1, height - 1, 0), 1);
        check.due(told + ": right of it", x.stand(width, 0, 0), -2);
        check.due(told + ": below it", x.stand(0, height, 0), -2);
        check.due(told + ": as wide a space", x.space(0, width), 1);
        check.due(told + ": a wider space", x.space(0, width + 1), -2);
    }

    private void sides() {
        check.begin("promise 1: WIDTH and HEIGHT (each 1 .. 24; 16 for other numbers)");
        for (int side = 1; side <= 24; side++) {
            dueSides("width " + side, new ParkWays(side, 3, 8), side, 3);
            dueSides("height " + side, new ParkWays(3, side, 8), 3, side);
        }
        for (int side : new int[] {0, 25, -1, -24, 26, 32, 256, 257, LOWEST, HIGHEST}) {
            dueSides("width " + side, new ParkWays(side, 3, 8), 16, 3);
            dueSides("height " + side, new ParkWays(3, side, 8), 3, 16);
            dueSides("both " + side, new ParkWays(side, side, 8), 16, 16);
        }
    }

    private void fourHeadings() {
        check.begin("promise 1: four HEADINGS (4), or eight (any other number)");
        for (int headings : new int[] {4, 8, 0, 1, 2, 3, 5, 6, 7, 9, -4, 12, 260, LOWEST, LOWEST + 4, HIGHEST}) {
            ParkWays x = new ParkWays(9, 9, headings);
            check.due(headings + " headings: an odd one", x.stand(4, 4, 1), headings == 4 ? -2 : 1);
            check.due(headings + " headings: the last one", x.stand(4, 4, 7), headings == 4 ? -2 : 1);
            int[] to = headings == 4 ? place(5, 5, 2) : place(6, 5, 1);
            check.dueWay(Scene.fromTo(x, place(4, 4, 0), to), 2);
        }
    }

    private void cellAnswers() {
        check.begin("promise 2: 1 if that is another way than before, 0 if not");
        for (int[] cell : new int[][] {{0, 0}, {6, 0}, {0, 4}, {6, 4}, {3, 2}}) {
            ParkWays x = new ParkWays(7, 5, 8);
            check.due("not full, as at first", x.cell(cell[0], cell[1], false), 0);
            check.due("full", x.cell(cell[0], cell[1], true), 1);
            check.due("full, as it was", x.cell(cell[0], cell[1], true), 0);
            check.due("it is full", x.stand(cell[0], cell[1], 0), -3);
            check.due("not full", x.cell(cell[0], cell[1], false), 1);
            check.due("not full, as it was", x.cell(cell[0], cell[1], false), 0);
            check.due("it is not full", x.stand(cell[0], cell[1], 0), 1);
            check.due("change() makes it full", x.change(cell[0], cell[1], true), 0);
            check.due("full, as change() left it", x.cell(cell[0], cell[1], true), 0);
        }
    }

    private void cellLeavesNoWay() {
        check.begin("promise 2: there is no WAY then (also if it was so)");
        ParkWays x = Scene.row();
        check.due("not full, as it was", x.cell(7, 0, false), 0);
        dueNoWay(x);
        x.cell(7, 0, true);
        x.way(Scene.ALL);
        check.due("full, as it was", x.cell(7, 0, true), 0);
        dueNoWay(x);
        x.way(Scene.ALL);
        check.due("full no more", x.cell(7, 0, false), 1);
        dueNoWay(x);
        x.way(Scene.ALL);
        check.due("full", x.cell(7, 0, true), 1);
        dueNoWay(x);
        check.due("but the last search was not spent", x.exact(), true);
    }

    private void dueNoWay(ParkWays x) {
        check.due("no way: move", x.move(0, 0), -1);
        check.due("no way: margin", x.margin(0), -1);
        check.due("no way: follow", x.follow(1, 0.0), 0);
    }

    private void noSuchCell() {
        check.begin("promise 2: ArrayIndexOutOfBoundsException when there is no such cell");
        ParkWays x = new ParkWays(5, 3, 8);
        int[][] none = {{5, 0}, {0, 3}, {-1, 0}, {0, -1}, {5, 3}, {-1, -1}, {4, 3}, {5, 2}, {32, 0}, {-32, 1}, {0, 24},
            {LOWEST, 0}, {HIGHEST, 0}, {0, LOWEST}, {0, HIGHEST}, {HIGHEST, LOWEST}};
        for (int[] cell : none) {
            check.dueThrow("cell(" + cell[0] + ", " + cell[1] + ", true)", () -> x.cell(cell[0], cell[1], true));
            check.dueThrow("cell(" + cell[0] + ", " + cell[1] + ", false)", () -> x.cell(cell[0], cell[1], false));
        }
        for (int i = 0; i < 5 * 3; i++) {
            check.due("none is full, cell " + i, x.cell(i % 5, i / 5, false), 0);
        }
        // As a width without a number is 16, its last cell is 15.
        ParkWays y = new ParkWays(0, 99, 8);
        check.due("the last one", y.cell(15, 15, true), 1);
        check.dueThrow("right of it", () -> y.cell(16, 15, true));
        check.dueThrow("below it", () -> y.cell(15, 16, true));
    }

    private void carSizes() {
        check.begin("promise 3: LENGTH (1 .. 7), WIDTH (1 .. 5) and RADIUS (1 .. 4): 1, and there is no WAY");
        for (int i = 0; i < 7 * 5 * 4; i++) {
            int[] sizes = {1 + i % 7, 1 + i / 7 % 5, 1 + i / 35};
            ParkWays x = new ParkWays(24, 24, 8);
            x.way(1);
            check.due("car " + i, x.car(sizes[0], sizes[1], sizes[2]), 1);
            dueNoWay(x);
            int[] before = {(sizes[0] - 1) / 2, (sizes[1] - 1) / 2};
            check.due("its first place", x.stand(before[0], before[1], 0), 1);
            check.due("its last place", x.stand(23 - sizes[0] / 2, 23 - sizes[1] / 2, 0), 1);
            check.due("too far left", x.stand(before[0] - 1, before[1], 0), before[0] == 0 ? -2 : -3);
            check.due("too far up", x.stand(before[0], before[1] - 1, 0), before[1] == 0 ? -2 : -3);
            check.due("too far right", x.stand(24 - sizes[0] / 2, 12, 0), sizes[0] == 1 ? -2 : -3);
            check.due("too far down", x.stand(12, 24 - sizes[1] / 2, 0), sizes[1] == 1 ? -2 : -3);
            check.dueWay(Scene.fromTo(x, place(8, 8, 0), place(8 + 2 * sizes[2], 8 + sizes[2], 1)), 2);
            check.due("the same car again", x.car(sizes[0], sizes[1], sizes[2]), 1);
            dueNoWay(x);
        }
    }

    private void carSizesOutside() {
        check.begin("promise 3: 0 if one is none (nothing changes)");
        int[][] none = {{0, 2, 2}, {8, 2, 2}, {2, 0, 2}, {2, 6, 2}, {2, 2, 0}, {2, 2, 5}, {-1, 2, 2}, {2, -1, 2},
            {2, 2, -1}, {LOWEST, 2, 2}, {2, HIGHEST, 2}, {2, 2, LOWEST}, {0, 0, 0}, {8, 6, 5},
            {HIGHEST, HIGHEST, HIGHEST}};
        for (int[] sizes : none) {
            ParkWays x = new ParkWays(12, 12, 4);
            x.car(3, 1, 1);
            Scene.fromTo(x, place(1, 4, 0), place(2, 5, 2)).way(Scene.ALL);
            String told = "car(" + sizes[0] + ", " + sizes[1] + ", " + sizes[2] + ")";
            check.due(told, x.car(sizes[0], sizes[1], sizes[2]), 0);
            check.due(told + " leaves the way", x.move(0, 0), 2);
            check.due(told + " leaves the radius", x.way(Scene.ALL), 1);
            check.due(told + " leaves the length", x.stand(0, 4, 0), -3);
            check.due(told + " leaves the length, too", x.stand(1, 4, 0), 1);
            check.due(told + " leaves the width", x.stand(1, 11, 0), 1);
        }
    }

    private void keepRange() {
        check.begin("promise 4: KEEP from now on: what it was; -2 it is not 0 .. 3");
        ParkWays x = new ParkWays(9, 9, 8);
        x.cell(4, 4, true);
        int was = 0;
        for (int cells : new int[] {0, 1, 2, 3, 3, 0, 2, 1, 0, 3}) {
            check.due("keep(" + cells + ")", x.keep(cells), was);
            was = cells;
            for (int none : new int[] {-1, 4, -4, 5, LOWEST, HIGHEST}) {
                check.due("keep(" + none + ")", x.keep(none), -2);
            }
            for (int far = 0; far <= 4; far++) {
                check.due("keep " + cells + ", " + far + " off", x.stand(4 - far, 4, 0), far <= cells ? -3 : 1);
            }
        }
    }

    private void keepLeavesNoWay() {
        check.begin("promise 4: there is no WAY");
        ParkWays x = Scene.row();
        check.due("another", x.keep(1), 0);
        dueNoWay(x);
        x.way(Scene.ALL);
        check.due("the same", x.keep(1), 1);
        dueNoWay(x);
        x.way(Scene.ALL);
        check.due("none such", x.keep(4), -2);
        check.due("which leaves the way", x.move(5, 0), 0);
    }

    private void standAtItsEdges() {
        check.begin("promise 5: -2 there is no such cell or HEADING, -3 it is not FREE");
        ParkWays x = new ParkWays(6, 4, 8);
        for (int h = 0; h < 8; h++) {
            for (int[] corner : new int[][] {{0, 0}, {5, 0}, {0, 3}, {5, 3}}) {
                check.due("corner, heading " + h, x.stand(corner[0], corner[1], h), 1);
            }
        }
        int[][] none = {{6, 0, 0}, {-1, 0, 0}, {0, 4, 0}, {0, -1, 0}, {0, 0, 8}, {0, 0, -1}, {6, 4, 8}, {32, 0, 0},
            {-32, 0, 0}, {0, 24, 0}, {0, 0, 16}, {LOWEST, 0, 0}, {HIGHEST, 0, 0}, {0, LOWEST, 0}, {0, HIGHEST, 0},
            {0, 0, LOWEST}, {0, 0, HIGHEST}};
        for (int[] place : none) {
            check.due("stand(" + place[0] + ", " + place[1] + ", " + place[2] + ")",
                    x.stand(place[0], place[1], place[2]), -2);
        }
        x.cell(2, 2, true);
        for (int h = 0; h < 8; h++) {
            check.due("on a full cell, heading " + h, x.stand(2, 2, h), -3);
            check.due("beside it, heading " + h, x.stand(3, 2, h), 1);
        }
    }

    private void standIsHome() {
        check.begin("promise 5: THE CAR stands at a PLACE, its HOME: 1; there is no WAY");
        ParkWays x = Scene.row();
        check.due("the same place", x.stand(0, 0, 0), 1);
        dueNoWay(x);
        x.way(Scene.ALL);
        check.due("the goal", x.stand(6, 0, 0), 1);
        dueNoWay(x);
        check.due("the goal is home", x.out(), 0);
        check.due("the car is there", x.way(1), 0);
        check.due("a way", x.follow(1, 0.0), 1);
        check.due("another place", x.stand(1, 0, 0), 1);
        check.due("the goal is not home", x.way(Scene.ALL), 5);
        x.follow(2, 0.0);
        check.due("the goal is home", x.out(), 1);
        check.dueWay(x, 1, 1);
        check.due("home is where it stood", x.move(1, 1), 1);
    }

    private void spaceRow() {
        check.begin("promise 6: the row y = 0 (side 0), or the last one (others)");
        for (int side : new int[] {0, 1, 2, -1, LOWEST, HIGHEST}) {
            ParkWays x = new ParkWays(4, 3, 8);
            x.cell(0, 2, true);
            check.due("side " + side, x.space(side, 1), side == 0 ? 1 : 2);
            dueGoal(x, side == 0 ? 1 : 2, side == 0 ? 0 : 2);
            x.cell(0, 1, true);
            check.due("side " + side + ", another row full", x.space(side, 1), side == 0 ? 1 : 2);
            ParkWays one = new ParkWays(4, 1, 8);
            one.cell(0, 0, true);
            check.due("side " + side + " of one row", one.space(side, 3), 2);
            dueGoal(one, 2, 0);
        }
    }

    /** Within one step no other PLACE is found than the GOAL. */
    private void dueGoal(ParkWays x, int goalX, int goalY) {
        check.due("stand at the goal", x.stand(goalX, goalY, 0), 1);
        check.due("no way is needed", x.way(1), 0);
        check.due("the goal is x = " + goalX + ", y = " + goalY, x.exact(), true);
    }

    private void spaceLongEnough() {
        check.begin("promise 6: of at least so many cells, the first one from x = 0 on, as long as it goes");
        ParkWays x = new ParkWays(15, 2, 8);
        // Spaces of 1, 2, 4, 2 and 1 cells, from x = 0, 2, 5, 10 and 13.
        for (int full : new int[] {1, 4, 9, 12, 14}) {
            x.cell(full, 0, true);
        }
        int[][] due = {{1, 1, 0}, {2, 3, 2}, {3, 6, 6}, {4, 6, 6}};
        for (int[] space : due) {
            check.due("least " + space[0], x.space(0, space[0]), space[1]);
            dueGoal(x, space[2], 0);
        }
        check.due("least 5", x.space(0, 5), 0);
        dueGoal(x, 6, 0);
        ParkWays last = new ParkWays(6, 2, 8);
        last.cell(2, 1, true);
        check.due("at the end of the row", last.space(1, 3), 4);
        dueGoal(last, 4, 1);
        check.due("no longer than the row goes", last.space(1, 4), 0);
        // Only FULL cells end it: not those within KEEP of one, nor those of the car, nor the other rows'.
        last.keep(3);
        last.car(7, 5, 4);
        check.due("beside a full cell, with keep", last.space(1, 3), 4);
        check.due("the car's cell", last.space(0, 6), 1);
    }

    private void spaceGoal() {
        check.begin("promise 6: the GOAL is (x + (n - 1) / 2, y, 0), n being how many cells it has");
        int[] half = {0, 0, 0, 1, 1, 2, 2, 3, 3, 4, 4, 5, 5, 6, 6, 7, 7, 8, 8, 9, 9, 10, 10, 11, 11};
        for (int n = 1; n <= 24; n++) {
            ParkWays x = new ParkWays(24, 2, 8);
            for (int full = n; full < 24; full++) {
                x.cell(full, 0, true);
                x.cell(full - n, 1, true);
            }
            check.due("n = " + n, x.space(0, 1), 1);
            dueGoal(x, half[n], 0);
            check.due("another heading", x.stand(half[n], 0, 4), 1);
            x.way(1);
            check.due("another heading is not the goal", x.follow(1, 0.0), 0);
            check.due("n = " + n + ", at the end", x.space(1, 1), 25 - n);
            dueGoal(x, 24 - n + half[n], 1);
        }
        ParkWays y = new ParkWays(5, 2, 8);
        y.space(0, 5);
        y.stand(0, 1, 0);
        y.way(Scene.ALL);
        check.due("the same goal again", y.space(0, 2), 1);
        dueNoWay(y);
    }

    private void spaceNone() {
        check.begin("promise 6: 0 if there is none (nothing changes)");
        ParkWays x = new ParkWays(3, 2, 8);
        for (int i = 0; i < 3; i++) {
            x.cell(i, 0, true);
        }
        check.due("a full row", x.space(0, 1), 0);
        x.space(1, 3);
        x.stand(2, 1, 0);
        x.way(Scene.ALL);
        check.due("a full row, too", x.space(0, 3), 0);
        check.due("the way is left", x.move(0, 0), 1);
        check.due("so is the goal", x.way(Scene.ALL), 1);
        check.due("at x = 1", x.move(0, 1), 1);
        ParkWays one = new ParkWays(1, 1, 8);
        check.due("the only cell", one.space(0, 1), 1);
        one.cell(0, 0, true);
        check.due("the only cell, full", one.space(0, 1), 0);
        check.due("the only cell, full, on the other side", one.space(1, 1), 0);
    }

    private void spaceLeast() {
        check.begin("promise 6: -2 least is not 1 .. WIDTH");
        for (int width : new int[] {1, 3, 23, 24}) {
            ParkWays x = new ParkWays(width, 2, 8);
            check.due("least 1 of " + width, x.space(0, 1), 1);
            check.due("least " + width, x.space(0, width), 1);
            for (int none : new int[] {0, -1, width + 1, LOWEST, HIGHEST}) {
                check.due("least " + none + " of " + width, x.space(0, none), -2);
                check.due("least " + none + " of " + width + ", the last row", x.space(1, none), -2);
            }
        }
        // It is the field's WIDTH, not the car's.
        ParkWays y = new ParkWays(3, 2, 8);
        y.car(7, 5, 4);
        check.due("as wide as the field", y.space(0, 3), 1);
        check.due("as wide as the car", y.space(0, 5), -2);
        y.car(1, 1, 1);
        check.due("wider than the car", y.space(0, 2), 1);
    }

    private void out() {
        check.begin("promise 7: THE GOAL is HOME: 1; there is no WAY. 0 if it was (THE WAY stays)");
        ParkWays x = new ParkWays(2, 2, 8);
        check.due("at first", x.out(), 0);
        check.due("the space at home", x.space(0, 2), 1);
        check.due("is home", x.out(), 0);
        x.stand(0, 0, 4);
        check.due("home with another heading", x.out(), 1);
        check.due("again", x.out(), 0);
        ParkWays y = Scene.row();
        check.due("home is not the goal", y.out(), 1);
        dueNoWay(y);
        check.due("the car is at home", y.way(1), 0);
        check.due("home is the goal", y.out(), 0);
        check.due("the way stays, without moves", y.follow(1, 0.0), 1);
        y.space(0, 8);
        y.way(Scene.ALL);
        y.follow(1000, 0.0);
        y.out();
        check.due("back home", y.way(Scene.ALL), 3);
        check.due("home is the goal, of a way with moves", y.out(), 0);
        check.due("the way stays", y.move(2, 1), 0);
        check.due("and is followed", y.follow(3, 0.0), 1);
        // HOME stays it, even where the car could not stand any more.
        ParkWays full = Scene.row();
        full.cell(0, 0, true);
        check.due("home is full", full.out(), 1);
        check.due("no way there", full.way(Scene.ALL), 0);
        dueNoWay(full);
        // The car's shape and KEEP change neither HOME nor the GOAL.
        ParkWays shape = Scene.row();
        shape.out();
        shape.car(7, 5, 4);
        shape.keep(3);
        check.due("the goal is home yet", shape.out(), 0);
    }

    private void wayAnswers() {
        check.begin("promise 8: how many MOVES it has; 0 there is none, or none are needed, -1 it is SPENT");
        for (int far = 0; far <= 23; far++) {
            ParkWays x = Scene.fromTo(new ParkWays(24, 1, 4), place(far, 0, 0), place(0, 0, 0));
            check.due(far + " moves", x.way(Scene.ALL), far);
            check.due("a way", x.follow(1000, 0.0), 1);
        }
        ParkWays y = Scene.row();
        check.due("a step too few", y.way(7), -1);
        dueNoWay(y);
        y.cell(3, 0, true);
        check.due("there is none", y.way(Scene.ALL), 0);
        dueNoWay(y);
        y.cell(3, 0, false);
        check.due("there is one again", y.way(Scene.ALL), 6);
        check.due("spent once more", y.way(1), -1);
        dueNoWay(y);
    }

    private void waySteps() {
        check.begin("promise 8: -2 steps are below 0");
        ParkWays x = Scene.row();
        for (long steps : new long[] {-1L, -2L, LOWEST, Long.MIN_VALUE, -(1L << 32), Long.MIN_VALUE + 100L}) {
            check.due("way(" + steps + ")", x.way(steps), -2);
            check.due("the way is left", x.move(5, 1), 6);
            check.due("not spent", x.exact(), true);
        }
        for (long steps : new long[] {8L, 9L, HIGHEST, 1L << 31, 1L << 32, (1L << 32) + 1L, 1L << 60, Long.MAX_VALUE}) {
            check.due("way(" + steps + ")", x.way(steps), 6);
        }
        check.due("no steps are not below 0", x.way(0L), -1);
    }

    private void moveRange() {
        check.begin("promise 9: MOVE i (from 0 on), what = 0, 1, 2, 3; -1 there is none; else -2 no such what");
        ParkWays x = Scene.fromTo(new ParkWays(8, 8, 4), place(1, 1, 0), place(3, 2, 2));
        check.due("no way: -1 goes before", x.move(0, 4), -1);
        x.way(Scene.ALL);
        int[][] due = {{0, 2, 1, 0}, {2, 3, 2, 2}};
        for (int i = 0; i < 2; i++) {
            for (int what = 0; what < 4; what++) {
                check.due("move(" + i + ", " + what + ")", x.move(i, what), due[i][what]);
            }
            for (int what : new int[] {-1, 4, 5, LOWEST, HIGHEST}) {
                check.due("move(" + i + ", " + what + ")", x.move(i, what), -2);
            }
        }
        for (int i : new int[] {-1, 2, 3, LOWEST, HIGHEST}) {
            for (int what : new int[] {0, 3, 4, -1}) {
                check.due("move(" + i + ", " + what + ")", x.move(i, what), -1);
            }
        }
        x.follow(2, 0.0);
        check.due("all were made: the first", x.move(0, 1), 2);
        check.due("all were made: the last", x.move(1, 2), 2);
        check.due("all were made: none behind it", x.move(2, 0), -1);
        check.due("a way without moves", x.way(Scene.ALL), 0);
        check.due("has none", x.move(0, 0), -1);
        check.due("but is a way", x.follow(1, 0.0), 1);
    }

    private void exactBefore() {
        check.begin("promise 10: false before one");
        ParkWays x = new ParkWays(5, 1, 8);
        check.due("at first", x.exact(), false);
        x.way(-1);
        check.due("a refused search", x.exact(), false);
        x.change(2, 0, true);
        check.due("change() without a way is no search", x.exact(), false);
        x.follow(1, 0.0);
        x.space(0, 2);
        x.out();
        check.due("other calls are none", x.exact(), false);
    }

    private void exactLast() {
        check.begin("promise 10: whether the last search (also by change()) was not SPENT");
        ParkWays x = Scene.row();
        check.due("a way", x.exact(), true);
        x.way(7);
        check.due("spent", x.exact(), false);
        x.cell(7, 0, true);
        x.keep(0);
        x.car(1, 1, 1);
        x.stand(0, 0, 0);
        check.due("still the last one", x.exact(), false);
        x.way(7);
        check.due("not spent", x.exact(), true);
        x.follow(1, 0.0);
        check.due("no search by change()", x.change(0, 0, true), 0);
        check.due("so it is the same", x.exact(), true);
        check.due("none, by change()", x.change(4, 0, true), 2);
        check.due("none, but not spent", x.exact(), true);
        x.way(0);
        check.due("spent again", x.exact(), false);
    }

    private void followAll() {
        check.begin("promise 11: 1 they were made (or all that are left)");
        for (int n : new int[] {1, 5, 6, 7, 1000}) {
            ParkWays x = Scene.row();
            check.due("follow(" + n + ")", x.follow(n, 0.0), 1);
            // A slip of 0.0625 counts the moves that were left.
            check.due("those that are left", x.follow(1000, 0.0625), 1);
            check.dueDouble("how many they are", x.error(), 0.0625 * Math.max(0, 6 - n));
            check.due("none are left", x.follow(1, 0.0625), 1);
            check.dueDouble("so none was made", x.error(), 0.0625 * Math.max(0, 6 - n));
        }
    }

    private void followStopped() {
        check.begin("promise 11: 2 it stopped before one, because nobody HOLDS on");
        ParkWays x = Scene.row();
        x.follow(2, 0.25);
        x.release(false);
        check.due("before the third", x.follow(1, 0.25), 2);
        check.due("before the third, of many", x.follow(1000, 0.25), 2);
        check.dueDouble("no slip", x.error(), 0.5);
        check.due("where the car is: x = 2, not 1", x.change(1, 0, true), 0);
        check.due("the way is left", x.move(5, 1), 6);
        x.release(true);
        check.due("the four that are left", x.follow(4, -0.25), 1);
        check.dueDouble("four slips", x.error(), -0.5);
        x.release(false);
        check.due("none is left to stop before", x.follow(1, 0.25), 1);
        check.dueDouble("nor to slip at", x.error(), -0.5);
    }

    private void followWithoutMoves() {
        check.begin("promise 11: 0 there is no WAY (one without MOVES is one)");
        ParkWays x = new ParkWays(4, 1, 8);
        check.due("before a search", x.follow(1, 0.25), 0);
        x.way(0);
        check.due("spent", x.follow(1, 0.25), 0);
        x.way(1);
        check.due("without moves", x.follow(1, 0.25), 1);
        check.due("without moves, many", x.follow(1000, 0.25), 1);
        x.release(false);
        check.due("without moves, nobody holds on", x.follow(1, 0.25), 1);
        x.space(0, 4);
        check.due("no way, nobody holds on", x.follow(1, 0.25), 0);
        check.dueDouble("none was made", x.error(), 0.0);
    }

    private void followRange() {
        check.begin("promise 11: -2 n is not 1 .. 1000, or the slip is not from -1.0 to 1.0");
        ParkWays x = Scene.row();
        for (int n : new int[] {0, -1, 1001, LOWEST, HIGHEST}) {
            check.due("follow(" + n + ", 0.0)", x.follow(n, 0.25), -2);
        }
        double[] none = {Math.nextUp(1.0), -Math.nextUp(1.0), 2.0, -2.0, Double.MAX_VALUE, -Double.MAX_VALUE,
            Double.POSITIVE_INFINITY, Double.NEGATIVE_INFINITY, Double.NaN};
        for (double slip : none) {
            check.due("follow(1, " + slip + ")", x.follow(1, slip), -2);
            check.due("follow(1000, " + slip + ")", x.follow(1000, slip), -2);
        }
        check.dueDouble("nothing was added", x.error(), 0.0);
        check.due("nothing was made", x.change(0, 0, true), 2);
        x.change(0, 0, false);
        x.way(Scene.ALL);
        double[] slips = {1.0, -1.0, Math.nextDown(1.0), -Math.nextDown(1.0), Double.MIN_VALUE, -0.0};
        for (double slip : slips) {
            check.due("follow(1, " + slip + ")", x.follow(1, slip), 1);
        }
        check.due("1000 are in the range", x.follow(1000, 0.0), 1);
    }

    private void errorAtItsBounds() {
        check.begin("promise 11: above 0.5 it is 1.0 less, below -0.5, 1.0 more");
        double[][] due = {{0.5, 0.5}, {-0.5, -0.5}, {Math.nextUp(0.5), Math.nextUp(0.5) - 1.0},
            {-Math.nextUp(0.5), 1.0 - Math.nextUp(0.5)}, {Math.nextDown(0.5), Math.nextDown(0.5)},
            {-Math.nextDown(0.5), -Math.nextDown(0.5)}, {1.0, 0.0}, {-1.0, 0.0}, {0.75, -0.25},
            {-0.75, 0.25}, {0.0, 0.0}};
        for (double[] slip : due) {
            ParkWays x = Scene.row();
            check.due("follow(1, " + slip[0] + ")", x.follow(1, slip[0]), 1);
            check.dueDouble("error after " + slip[0], x.error(), slip[1]);
        }
        // The greatest that it may be before, and the greatest slip: 1.5, and no more than 1.0 is taken away.
        ParkWays up = Scene.row();
        up.follow(1, 0.5);
        up.follow(1, 1.0);
        check.dueDouble("0.5 and 1.0", up.error(), 0.5);
        up.follow(1, -1.0);
        check.dueDouble("0.5 and -1.0", up.error(), -0.5);
        up.follow(1, -1.0);
        check.dueDouble("-0.5 and -1.0", up.error(), -0.5);
        up.follow(1, 1.0);
        check.dueDouble("-0.5 and 1.0", up.error(), 0.5);
        ParkWays each = Scene.row();
        // 0.375, 0.75 - 1.0, 0.125, 0.5, 0.875 - 1.0, 0.25.
        each.follow(6, 0.375);
        check.dueDouble("to each one the slip is added", each.error(), 0.25);
    }

    private void errorAtFirst() {
        check.begin("promise 12: the ERROR (at first 0.0)");
        ParkWays x = Scene.row();
        check.dueDouble("at first", x.error(), 0.0);
        x.follow(1, 0.375);
        check.dueDouble("one slip", x.error(), 0.375);
        x.cell(7, 0, true);
        x.car(1, 1, 2);
        x.keep(0);
        x.stand(0, 0, 0);
        x.out();
        x.way(Scene.ALL);
        x.release(false);
        check.dueDouble("other calls leave it", x.error(), 0.375);
    }

    private void changeOfMovesLeft() {
        check.begin("promise 13: 0 if MOVES of THE WAY that are left may all be made yet");
        for (int made = 0; made <= 6; made++) {
            for (int full = 0; full < 8; full++) {
                ParkWays x = Scene.row();
                if (made > 0) {
                    x.follow(made, 0.0);
                }
                // From the car's own cell to the goal's, both too; with none left there is nothing to bar.
                boolean barred = made < 6 && full >= made && full <= 6;
                check.due("made " + made + ", full " + full, x.change(full, 0, true), barred ? 2 : 0);
                check.due("the way stays, or there is none", x.move(0, 0), barred ? -1 : 0);
            }
        }
    }

    private void changeOfMovesMade() {
        check.begin("promise 13: 0, and THE WAY stays as it was");
        ParkWays x = Scene.row();
        x.follow(3, 0.0);
        check.due("behind the car", x.change(2, 0, true), 0);
        check.due("full, as it is", x.change(2, 0, true), 0);
        check.due("full no more", x.change(2, 0, false), 0);
        check.due("not full, as it is", x.change(4, 0, false), 0);
        check.due("its first move", x.move(0, 1), 1);
        check.due("its last move", x.move(5, 1), 6);
        check.due("the three that are left", x.follow(3, 0.25), 1);
        check.dueDouble("three slips", x.error(), -0.25);
        // A better way that opens is not looked for.
        ParkWays round = new ParkWays(9, 7, 4);
        round.cell(4, 3, true);
        Scene.fromTo(round, place(0, 3, 0), place(8, 3, 0));
        String before = numbers(round, round.way(Scene.ALL));
        check.due("round it there are arcs", before.equals("00000000"), false);
        check.due("a better way opens", round.change(4, 3, false), 0);
        check.due("the way stays", numbers(round, before.length()).equals(before), true);
        check.dueWay(round, 0, 0, 0, 0, 0, 0, 0, 0);
    }

    private static String numbers(ParkWays x, int moves) {
        StringBuilder numbers = new StringBuilder();
        for (int i = 0; i < moves; i++) {
            numbers.append(x.move(i, 0));
        }
        return numbers.toString();
    }

    private void changeWithoutWay() {
        check.begin("promise 13: 0 (or there is no WAY)");
        ParkWays x = new ParkWays(4, 1, 8);
        check.due("before a search", x.change(0, 0, true), 0);
        check.due("the cell is full", x.cell(0, 0, true), 0);
        check.due("full, as it is", x.change(0, 0, true), 0);
        check.due("full no more", x.change(0, 0, false), 0);
        check.due("the cell is not full", x.cell(0, 0, false), 0);
        x.way(0);
        check.due("spent", x.change(0, 0, true), 0);
        check.due("no search", x.exact(), false);
        x.way(Scene.ALL);
        check.due("there was none", x.change(0, 0, false), 0);
        check.due("and is none", x.follow(1, 0.0), 0);
        x.way(Scene.ALL);
        check.due("a way without moves", x.change(0, 0, true), 0);
        check.due("stays", x.follow(1, 0.0), 1);
    }

    private void changeFindsAnother() {
        check.begin("promise 13: it is searched from where the CAR is: 1 there is one");
        ParkWays x = Scene.fromTo(new ParkWays(9, 7, 4), place(0, 3, 0), place(8, 3, 0));
        x.way(Scene.ALL);
        x.follow(2, 0.0);
        check.due("full before it", x.change(5, 3, true), 1);
        ParkWays same = Scene.fromTo(new ParkWays(9, 7, 4), place(2, 3, 0), place(8, 3, 0));
        same.cell(5, 3, true);
        int moves = same.way(Scene.ALL);
        check.due("round it", moves > 0, true);
        for (int i = 0; i <= moves; i++) {
            for (int what = 0; what < 4; what++) {
                check.due("move(" + i + ", " + what + ")", x.move(i, what), same.move(i, what));
            }
            check.due("margin(" + i + ")", x.margin(i), same.margin(i));
        }
        check.due("exact", x.exact(), true);
        check.due("all its moves are left: one to the last", x.follow(moves - 1, 0.0), 1);
        check.due("so one is left", x.change(8, 3, true), 2);
        check.due("home is where it stood, not where it was searched from", x.out(), 1);
        x.change(5, 3, false);
        x.way(Scene.ALL);
        check.due("the way home", x.follow(1000, 0.0), 1);
        check.due("home is x = 0", x.stand(0, 3, 0) + x.way(1), 1);
    }

    private void changeFindsNone() {
        check.begin("promise 13: 1 there is one, 2 not");
        ParkWays goal = Scene.row();
        check.due("the goal is full", goal.change(6, 0, true), 2);
        check.due("not spent", goal.exact(), true);
        dueNoWay(goal);
        check.due("no way: 0, whatever changes", goal.change(6, 0, false), 0);
        dueNoWay(goal);
        ParkWays car = Scene.row();
        check.due("the car's cell is full", car.change(0, 0, true), 2);
        check.due("not spent", car.exact(), true);
        dueNoWay(car);
        ParkWays between = Scene.row();
        check.due("one between is full", between.change(3, 0, true), 2);
        check.due("not spent", between.exact(), true);
        dueNoWay(between);
        check.due("the cell is full", between.cell(3, 0, true), 0);
    }

    private void changeWithAsManySteps() {
        check.begin("promise 13: with as many steps as before");
        int needed = stepsRound();
        for (int more = -1; more <= 1; more++) {
            ParkWays x = Scene.fromTo(new ParkWays(9, 7, 4), place(4, 3, 0), place(2, 3, 0));
            check.due("two steps back", x.way(needed + more), 2);
            check.due("a refusal leaves the steps", x.way(-1), -2);
            check.due(more + " more than are needed", x.change(3, 3, true), more < 0 ? 2 : 1);
            check.due(more + " more: exact", x.exact(), more >= 0);
            check.due(more + " more: way", x.follow(1, 0.0), more < 0 ? 0 : 1);
        }
        ParkWays last = Scene.fromTo(new ParkWays(9, 7, 4), place(4, 3, 0), place(2, 3, 0));
        last.way(Scene.ALL);
        last.way(needed - 1);
        check.due("those of the last search, not of one before", last.change(3, 3, true), 2);
        // The steps of a search by change() are the same: the next one has them, too.
        ParkWays twice = Scene.fromTo(new ParkWays(9, 7, 4), place(4, 3, 0), place(2, 3, 0));
        twice.way(Scene.ALL);
        check.due("once", twice.change(3, 3, true), 1);
        check.due("twice", twice.change(twice.move(1, 1), twice.move(1, 2), true), 1);
        check.due("exact", twice.exact(), true);
    }

    /** How many steps the search round the cell between needs, from the car's place two behind it. */
    private static int stepsRound() {
        ParkWays x = Scene.fromTo(new ParkWays(9, 7, 4), place(4, 3, 0), place(2, 3, 0));
        x.cell(3, 3, true);
        int steps = 0;
        while (steps < 400 && x.way(steps) < 0) {
            steps++;
        }
        return steps;
    }

    private void changeWithinKeep() {
        check.begin("promise 13: may all be made yet, with KEEP");
        for (int keep = 0; keep <= 3; keep++) {
            for (int y = 0; y <= 4; y++) {
                ParkWays x = Scene.fromTo(new ParkWays(8, 5, 8), place(0, 0, 0), place(2, 0, 0));
                x.keep(keep);
                x.way(Scene.ALL);
                check.due("keep " + keep + ", full " + y + " off", x.change(1, y, true), y <= keep ? 2 : 0);
            }
            for (int far = 0; far <= 4; far++) {
                ParkWays x = Scene.fromTo(new ParkWays(8, 1, 8), place(0, 0, 0), place(2, 0, 0));
                x.keep(keep);
                x.way(Scene.ALL);
                check.due("keep " + keep + ", full " + far + " on", x.change(2 + far, 0, true), far <= keep ? 2 : 0);
            }
        }
    }

    private void changeNoSuchCell() {
        check.begin("promise 13: ArrayIndexOutOfBoundsException when there is no such cell");
        ParkWays bare = new ParkWays(8, 1, 8);
        ParkWays x = Scene.row();
        int[][] none = {{8, 0}, {-1, 0}, {0, 1}, {0, -1}, {32, 0}, {0, 24}, {LOWEST, 0}, {HIGHEST, 0}, {0, LOWEST},
            {0, HIGHEST}, {-1, 1}, {8, -1}};
        for (int[] cell : none) {
            String told = "change(" + cell[0] + ", " + cell[1] + ")";
            check.dueThrow(told + " without a way", () -> bare.change(cell[0], cell[1], true));
            check.dueThrow(told, () -> x.change(cell[0], cell[1], true));
            check.dueThrow(told, () -> x.change(cell[0], cell[1], false));
        }
        check.due("the way is left", x.follow(6, 0.0), 1);
        check.due("the last cell", x.change(7, 0, true), 0);
        check.due("the first cell", x.change(0, 0, true), 0);
    }

    private void release() {
        check.begin("promise 14: 1 if that is another way than before, 0 if not");
        ParkWays x = Scene.row();
        boolean[] held = {true, false, false, true, true, false};
        int[] due = {0, 1, 0, 1, 0, 1};
        for (int i = 0; i < held.length; i++) {
            check.due("release " + i, x.release(held[i]), due[i]);
            check.due("follow " + i, x.follow(1, 0.0), held[i] ? 1 : 2);
        }
        check.due("the way is left", x.move(5, 1), 6);
        x.cell(7, 0, true);
        x.stand(0, 0, 0);
        x.way(Scene.ALL);
        check.due("from now on, for other ways, too", x.follow(1, 0.0), 2);
        check.due("as before", x.release(false), 0);
    }

    private void marginDistances() {
        check.begin("promise 15: the greater of both distances, in x and in y, 9 at most (also without any)");
        ParkWays x = Scene.fromTo(new ParkWays(24, 24, 8), place(0, 0, 0), place(1, 0, 0));
        x.way(Scene.ALL);
        check.due("without any", x.margin(0), 9);
        x.follow(1, 0.0);
        for (int far = 0; far <= 22; far++) {
            int due = Math.min(far, 9);
            dueMargin(x, 1 + far, 0, due);
            dueMargin(x, 1, far, due);
            dueMargin(x, 1 + far, far, due);
            dueMargin(x, 1 + far, far / 2, due);
            dueMargin(x, 1 + far / 2, far, due);
        }
        x.change(7, 0, true);
        x.change(1, 5, true);
        x.change(8, 8, true);
        check.due("the nearest of several", x.margin(0), 5);
        x.change(5, 4, true);
        check.due("a nearer one", x.margin(0), 4);
    }

    private void dueMargin(ParkWays x, int fullX, int fullY, int due) {
        x.change(fullX, fullY, true);
        check.due("full at (" + fullX + ", " + fullY + ")", x.margin(0), due);
        x.change(fullX, fullY, false);
    }

    private void marginOfEachCell() {
        check.begin("promise 15: the cells that the CAR COVERS behind MOVE i");
        Shape[] shapes = {new Shape(1, 1), new Shape(7, 1), new Shape(4, 1), new Shape(1, 5), new Shape(1, 4),
            new Shape(4, 2)};
        for (Shape shape : shapes) {
            for (int h = 0; h < 8; h++) {
                int[] from = place(7, 5, h);
                int[] to = place(7 + Shape.STEPS[h][0], 5 + Shape.STEPS[h][1], h);
                ParkWays x = new ParkWays(15, 11, 8);
                x.car(shape.length, shape.wide, 1);
                Scene.fromTo(x, from, to);
                x.way(Scene.ALL);
                x.follow(1, 0.0);
                for (int i = 0; i < 15 * 11; i++) {
                    dueMargin(x, i % 15, i / 15, Math.min(9, shape.distance(to, i % 15, i / 15)));
                }
            }
        }
    }

    private void marginRange() {
        check.begin("promise 15: -1 there is no such MOVE");
        ParkWays none = new ParkWays(8, 1, 8);
        check.due("before a search", none.margin(0), -1);
        none.way(Scene.ALL);
        check.due("a way without moves", none.margin(0), -1);
        ParkWays x = Scene.row();
        x.change(7, 0, true);
        for (int i = 0; i < 6; i++) {
            check.due("margin(" + i + ")", x.margin(i), 6 - i);
        }
        for (int i : new int[] {-1, 6, 7, LOWEST, HIGHEST}) {
            check.due("margin(" + i + ")", x.margin(i), -1);
        }
        x.follow(6, 0.0);
        check.due("of a move that was made", x.margin(0), 6);
        check.due("of the last one", x.margin(5), 1);
        check.due("none behind it", x.margin(6), -1);
        check.due("the cell of a move that was made is full", x.change(3, 0, true), 0);
        check.due("0 there", x.margin(2), 0);
    }

    private void headingRange() {
        check.begin("promise 16: 3 (x + 1) + y + 1; ArrayIndexOutOfBoundsException when it is not 0 .. 7");
        int[] due = {7, 8, 5, 2, 1, 0, 3, 6};
        for (int headings : new int[] {4, 8}) {
            ParkWays x = new ParkWays(2, 2, headings);
            for (int h = 0; h < 8; h++) {
                check.due("heading(" + h + ") of " + headings, x.heading(h), due[h]);
            }
            for (int h : new int[] {-1, 8, -8, 9, 16, LOWEST, HIGHEST}) {
                check.dueThrow("heading(" + h + ") of " + headings, () -> x.heading(h));
            }
        }
    }
}
