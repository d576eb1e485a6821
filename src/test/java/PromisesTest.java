/** For each promise of the document, answers found by hand: ordinary inputs, edges and wrong inputs. */
public final class PromisesTest {
    private static final long ALL = Scene.ALL;

    private final Check check = new Check();

    public static void main(String[] args) {
        PromisesTest test = new PromisesTest();
        test.newObject();
        test.cell();
        test.car();
        test.carCovers();
        test.keep();
        test.stand();
        test.space();
        test.out();
        test.way();
        test.waySpent();
        test.wayWithoutFreeGoal();
        test.wayAmongEquals();
        test.move();
        test.arcs();
        test.exact();
        test.follow();
        test.error();
        test.change();
        test.changePlansAnew();
        test.release();
        test.margin();
        test.heading();
        test.check.end("PromisesTest");
    }

    private void dueSides(ParkWays x, int width, int height) {
        check.due("stand in the last corner", x.stand(width - 1, height - 1, 0), 1);
        check.due("stand right of it", x.stand(width, height - 1, 0), -2);
        check.due("stand below it", x.stand(width - 1, height, 0), -2);
    }

    private void newObject() {
        check.begin("promise 1");
        dueSides(new ParkWays(1, 1, 8), 1, 1);
        dueSides(new ParkWays(24, 24, 8), 24, 24);
        dueSides(new ParkWays(3, 7, 4), 3, 7);
        dueSides(new ParkWays(0, 7, 4), 16, 7);
        dueSides(new ParkWays(25, 1, 4), 16, 1);
        dueSides(new ParkWays(24, 0, 4), 24, 16);
        dueSides(new ParkWays(1, 25, 4), 1, 16);
        dueSides(new ParkWays(Integer.MIN_VALUE, Integer.MAX_VALUE, 4), 16, 16);
        for (int headings : new int[] {8, 5, 0, -4, 3, 44, Integer.MIN_VALUE}) {
            check.due("headings " + headings, new ParkWays(3, 3, headings).stand(1, 1, 7), 1);
        }
        check.due("four headings, an odd one", new ParkWays(3, 3, 4).stand(1, 1, 7), -2);
        check.due("four headings, an even one", new ParkWays(3, 3, 4).stand(1, 1, 6), 1);
        ParkWays x = new ParkWays(5, 5, 8);
        check.due("follow before a search", x.follow(1, 0.0), 0);
        check.due("out at first", x.out(), 0);
        check.due("no full cells", x.space(0, 5), 1);
    }

    private void cell() {
        check.begin("promise 2");
        ParkWays x = new ParkWays(4, 3, 8);
        check.due("full", x.cell(3, 2, true), 1);
        check.due("full again", x.cell(3, 2, true), 0);
        check.due("not full", x.cell(3, 2, false), 1);
        check.due("not full again", x.cell(3, 2, false), 0);
        check.due("never full", x.cell(0, 0, false), 0);
        check.dueThrow("x too great", () -> x.cell(4, 0, true));
        check.dueThrow("y too great", () -> x.cell(0, 3, true));
        check.dueThrow("x below 0", () -> x.cell(-1, 1, true));
        check.dueThrow("y below 0", () -> x.cell(1, -1, true));
        check.dueThrow("far off", () -> x.cell(Integer.MAX_VALUE, Integer.MIN_VALUE, false));
        check.due("still none full", x.space(0, 4) + x.space(1, 4), 2);
        x.way(ALL);
        x.stand(3, 0, 0);
        x.way(ALL);
        check.dueThrow("no such cell", () -> x.cell(4, 0, false));
        check.due("a refused cell leaves the way", x.follow(1, 0.0), 1);
        check.due("the same as it was", x.cell(1, 1, false), 0);
        check.due("no way then", x.follow(1, 0.0), 0);
    }

    private void car() {
        check.begin("promise 3");
        ParkWays x = new ParkWays(12, 12, 8);
        int[][] wrong = {{0, 1, 1}, {8, 1, 1}, {1, 0, 1}, {1, 6, 1}, {1, 1, 0}, {1, 1, 5}, {-1, -1, -1},
            {Integer.MIN_VALUE, 1, 1}, {1, Integer.MAX_VALUE, 1}};
        x.way(ALL);
        for (int[] sizes : wrong) {
            check.due("car of " + sizes[0] + ", " + sizes[1] + ", " + sizes[2], x.car(sizes[0], sizes[1], sizes[2]), 0);
        }
        check.due("the way is left", x.follow(1, 0.0), 1);
        check.due("nothing changed", x.stand(0, 0, 0), 1);
        x.way(ALL);
        check.due("the greatest", x.car(7, 5, 4), 1);
        check.due("no way then", x.follow(1, 0.0), 0);
        x.car(1, 1, 1);
        x.way(ALL);
        check.due("the least, and the same", x.car(1, 1, 1), 1);
        check.due("no way then, too", x.follow(1, 0.0), 0);
    }

    private void carCovers() {
        check.begin("what the car covers");
        ParkWays x = new ParkWays(24, 24, 8);
        x.car(7, 1, 1);
        dueSpan(x, 0, 3, 3, 0, 0);
        dueSpan(x, 2, 0, 0, 3, 3);
        x.car(1, 5, 1);
        dueSpan(x, 0, 0, 0, 2, 2);
        x.car(6, 2, 1);
        // i is -2 to 3, j is 0 to 1: more cells before the car's own one than behind it.
        dueSpan(x, 0, 2, 3, 0, 1);
        dueSpan(x, 2, 1, 0, 2, 3);
        dueSpan(x, 4, 3, 2, 1, 0);
        dueSpan(x, 6, 0, 1, 3, 2);
        // Heading 1 goes by (1, 1), its side by (-1, 1): x is 12 + i - j, y is 12 + i + j.
        dueSpan(x, 1, 3, 3, 2, 4);
        x.car(2, 2, 1);
        // At (5, 5) with heading 1: (5, 5), (4, 6), (6, 6), (5, 7), but not (5, 6).
        x.cell(5, 6, true);
        check.due("round a full cell", x.stand(5, 5, 1), 1);
        x.cell(4, 6, true);
        check.due("a full cell at the side", x.stand(5, 5, 1), -3);
        x.cell(4, 6, false);
        x.cell(5, 7, true);
        check.due("a full cell at the far corner", x.stand(5, 5, 1), -3);
    }

    /** How far the car reaches to the left, right, up and down, by the outermost PLACES that are FREE. */
    private void dueSpan(ParkWays x, int heading, int left, int right, int up, int down) {
        check.due("leftmost", x.stand(left, 12, heading), 1);
        check.due("rightmost", x.stand(23 - right, 12, heading), 1);
        check.due("uppermost", x.stand(12, up, heading), 1);
        check.due("lowest", x.stand(12, 23 - down, heading), 1);
        check.due("left of it", x.stand(left - 1, 12, heading), left == 0 ? -2 : -3);
        check.due("right of it", x.stand(24 - right, 12, heading), right == 0 ? -2 : -3);
        check.due("above it", x.stand(12, up - 1, heading), up == 0 ? -2 : -3);
        check.due("below it", x.stand(12, 24 - down, heading), down == 0 ? -2 : -3);
    }

    private void keep() {
        check.begin("promise 4");
        ParkWays x = new ParkWays(9, 9, 8);
        check.due("at first", x.keep(3), 0);
        check.due("below 0", x.keep(-1), -2);
        check.due("above 3", x.keep(4), -2);
        check.due("far off", x.keep(Integer.MIN_VALUE), -2);
        check.due("what it was", x.keep(2), 3);
        x.cell(4, 4, true);
        check.due("within it in x", x.stand(6, 4, 0), -3);
        check.due("within it in y", x.stand(4, 2, 0), -3);
        check.due("within it in both", x.stand(2, 6, 0), -3);
        check.due("outside it in x", x.stand(7, 4, 0), 1);
        check.due("outside it in y", x.stand(6, 7, 0), 1);
        check.due("cells outside the field are not full", x.stand(0, 0, 0), 1);
        x.way(ALL);
        x.keep(9);
        check.due("a refusal leaves the way", x.follow(1, 0.0), 1);
        check.due("the same", x.keep(2), 2);
        check.due("no way then", x.follow(1, 0.0), 0);
        x.keep(0);
        check.due("beside the full cell", x.stand(5, 4, 0), 1);
        check.due("on it", x.stand(4, 4, 0), -3);
        x.keep(1);
        check.due("beside the full cell, no more", x.stand(5, 4, 0), -3);
        x.cell(4, 4, false);
        check.due("full no more", x.stand(4, 4, 0), 1);
    }

    private void stand() {
        check.begin("promise 5");
        ParkWays x = new ParkWays(6, 4, 8);
        x.cell(2, 2, true);
        check.due("not free", x.stand(2, 2, 0), -3);
        check.due("no such cell goes before", x.stand(6, 2, 9), -2);
        check.due("heading 8", x.stand(1, 1, 8), -2);
        check.due("heading below 0", x.stand(2, 2, -1), -2);
        check.due("far off", x.stand(Integer.MIN_VALUE, Integer.MAX_VALUE, 0), -2);
        check.due("refused: home is as it was", x.out(), 0);
        check.due("free", x.stand(5, 3, 5), 1);
        check.due("home is there", x.out(), 1);
        check.due("the goal is home", x.way(1), 0);
        check.due("and the car is there", x.exact(), true);
        check.due("refused", x.stand(2, 2, 0), -3);
        check.due("leaves the way", x.follow(1, 0.0), 1);
        check.due("the same place", x.stand(5, 3, 5), 1);
        check.due("no way then", x.follow(1, 0.0), 0);
        check.due("another heading is another place", x.stand(5, 3, 4), 1);
        check.due("so home is another", x.out(), 1);
    }

    private void space() {
        check.begin("promise 6");
        ParkWays x = new ParkWays(10, 4, 8);
        for (int full : new int[] {1, 4, 9}) {
            x.cell(full, 0, true);
        }
        x.cell(0, 3, true);
        check.due("least 0", x.space(0, 0), -2);
        check.due("least above the width", x.space(0, 11), -2);
        check.due("least far off", x.space(0, Integer.MIN_VALUE), -2);
        check.due("one", x.space(0, 1), 1);
        check.due("two", x.space(0, 2), 3);
        check.due("three", x.space(0, 3), 6);
        check.due("four", x.space(0, 4), 6);
        dueGoal(x, 6, 0);
        check.due("five", x.space(0, 5), 0);
        dueGoal(x, 6, 0);
        check.due("the last row", x.space(1, 9), 2);
        dueGoal(x, 5, 3);
        check.due("any other side", x.space(-7, 1), 2);
        dueGoal(x, 5, 3);
        check.due("two cells: the goal is the first", x.space(0, 2), 3);
        dueGoal(x, 2, 0);
        check.due("ten in the last row", x.space(1, 10), 0);
        x.stand(5, 1, 0);
        x.way(ALL);
        x.space(0, 5);
        x.space(0, 0);
        check.due("none and refusals leave the way", x.follow(1, 0.0), 1);
        x.space(0, 1);
        check.due("a space: no way then", x.follow(1, 0.0), 0);
        check.due("a field of one cell", new ParkWays(1, 1, 8).space(0, 1), 1);
        check.due("a field of one row", new ParkWays(24, 1, 8).space(5, 24), 1);
    }

    /** The first PLACE that a search takes is the GOAL: within one step none other is found. */
    private void dueGoal(ParkWays x, int goalX, int goalY) {
        check.due("stand at the goal", x.stand(goalX, goalY, 0), 1);
        check.due("no way is needed", x.way(1), 0);
        check.due("the goal", x.exact(), true);
    }

    private void out() {
        check.begin("promise 7");
        ParkWays x = new ParkWays(6, 3, 8);
        x.stand(2, 1, 0);
        x.way(ALL);
        check.due("another goal", x.out(), 1);
        check.due("no way then", x.follow(1, 0.0), 0);
        x.way(ALL);
        check.due("the same goal", x.out(), 0);
        check.due("the way stays", x.follow(1, 0.0), 1);
        x.space(0, 6);
        check.due("to the space", x.way(ALL) > 0, true);
        check.due("follow", x.follow(1000, 0.0), 1);
        check.due("home is where the car stood", x.out(), 1);
        check.due("and the way leads there", x.way(ALL) > 0, true);
        int last = x.way(ALL) - 1;
        check.due("x", x.move(last, 1), 2);
        check.due("y", x.move(last, 2), 1);
        check.due("heading", x.move(last, 3), 0);
    }

    private void way() {
        check.begin("promise 8");
        ParkWays x = new ParkWays(8, 1, 8);
        check.due("none needed", x.way(ALL), 0);
        check.due("it is a way", x.follow(1, 0.0), 1);
        Scene.fromTo(x, Scene.place(5, 0, 0), Scene.place(0, 0, 0));
        check.dueWay(x, 1, 1, 1, 1, 1);
        check.due("steps below 0", x.way(-1), -2);
        check.due("far below", x.way(Long.MIN_VALUE), -2);
        check.due("a refusal leaves the way", x.move(4, 0), 1);
        Scene.fromTo(x, Scene.place(0, 0, 0), Scene.place(3, 0, 0));
        check.dueWay(x, 0, 0, 0);
        x.cell(2, 0, true);
        check.due("no way", x.way(ALL), 0);
        check.due("there is none", x.follow(1, 0.0), 0);
        check.due("most steps", x.way(Long.MAX_VALUE), 0);
        // The heading may not be turned in one row.
        check.dueWay(Scene.fromTo(new ParkWays(8, 1, 4), Scene.place(0, 0, 0), Scene.place(3, 0, 4)));
        // A place that is full now is not left: its first place is not free.
        ParkWays y = Scene.fromTo(new ParkWays(8, 1, 8), Scene.place(0, 0, 0), Scene.place(3, 0, 0));
        y.cell(0, 0, true);
        check.due("from a full cell", y.way(ALL), 0);
        check.due("no way", y.follow(1, 0.0), 0);
    }

    private void waySpent() {
        check.begin("promise 8, spent");
        // In one row of 8 from (5, 0, 0) to (2, 0, 0): taken are x = 2, 1, 3, 0, 4, 5, 6, 7.
        ParkWays x = Scene.fromTo(new ParkWays(8, 1, 8), Scene.place(5, 0, 0), Scene.place(2, 0, 0));
        check.due("5 steps", x.way(5), -1);
        check.due("no way then", x.follow(1, 0.0), 0);
        check.due("6 steps", x.way(6), 3);
        check.due("no step", x.way(0), -1);
        x.stand(2, 0, 0);
        check.due("no step at the goal", x.way(0), -1);
        check.due("no way then, too", x.follow(1, 0.0), 0);
        check.due("a step at the goal", x.way(1), 0);
        check.due("a way without moves", x.follow(1, 0.0), 1);
        x.stand(2, 0, 4);
        check.due("not there, and more", x.way(7), -1);
        check.due("not exact", x.exact(), false);
        check.due("not there, and no more", x.way(8), 0);
        check.due("exact", x.exact(), true);
        // Equal ways: by x within a row, then a lesser y before a greater one.
        Scene.fromTo(x, Scene.place(1, 0, 0), Scene.place(2, 0, 0));
        check.due("the lesser x is the second", x.way(2), 1);
        x.stand(3, 0, 0);
        check.due("the greater x is not", x.way(2), -1);
        check.due("it is the third", x.way(3), 1);
        ParkWays column = Scene.fromTo(new ParkWays(1, 5, 4), Scene.place(0, 3, 2), Scene.place(0, 2, 2));
        check.due("the greater y is the third", column.way(2), -1);
        check.due("y, third", column.way(3), 1);
    }

    private void wayWithoutFreeGoal() {
        check.begin("promise 8, goal not free");
        ParkWays x = new ParkWays(4, 1, 8);
        x.cell(0, 0, true);
        check.due("at the goal", x.way(ALL), 0);
        check.due("there is none", x.follow(1, 0.0), 0);
        check.due("no steps: nothing to be taken", x.way(0), 0);
        check.due("so it is not spent", x.exact(), true);
        x.cell(0, 0, false);
        x.car(3, 1, 1);
        check.due("the goal covers cells outside", x.way(ALL), 0);
        check.due("none", x.follow(1, 0.0), 0);
    }

    private void wayAmongEquals() {
        check.begin("the way among others");
        // From heading 0 to 1, two on, one down: one arc of radius 1.
        check.dueWay(Scene.fromTo(new ParkWays(6, 6, 8), Scene.place(1, 1, 0), Scene.place(3, 2, 1)), 2);
        // A step, then the arc: the other way round they lead elsewhere.
        check.dueWay(Scene.fromTo(new ParkWays(8, 8, 4), Scene.place(1, 1, 0), Scene.place(3, 2, 2)), 0, 2);
        // Two steps, or two arcs by way of another heading: the lesser sum of lengths.
        check.dueWay(Scene.fromTo(new ParkWays(9, 9, 8), Scene.place(4, 4, 0), Scene.place(6, 4, 0)), 0, 0);
        // Turned about on the spot: two arcs end two cells off, so there are two steps, too, best at first.
        check.dueWay(Scene.fromTo(new ParkWays(9, 9, 4), Scene.place(4, 4, 0), Scene.place(4, 4, 4)), 0, 0, 4, 2);
    }

    private void move() {
        check.begin("promise 9");
        ParkWays x = Scene.fromTo(new ParkWays(8, 8, 4), Scene.place(1, 1, 0), Scene.place(3, 2, 2));
        check.due("before a search", x.move(0, 0), -1);
        x.way(ALL);
        check.due("number", x.move(1, 0), 2);
        check.due("x behind the first", x.move(0, 1), 2);
        check.due("y behind the first", x.move(0, 2), 1);
        check.due("heading behind the first", x.move(0, 3), 0);
        check.due("x behind the second", x.move(1, 1), 3);
        check.due("y behind the second", x.move(1, 2), 2);
        check.due("heading behind the second", x.move(1, 3), 2);
        check.due("no such what", x.move(0, 4), -2);
        check.due("no such what, below", x.move(1, -1), -2);
        check.due("no such move goes before", x.move(2, 4), -1);
        check.due("below 0", x.move(-1, 0), -1);
        check.due("far off", x.move(Integer.MAX_VALUE, Integer.MIN_VALUE), -1);
        x.follow(1, 0.0);
        check.due("moves that were made count, too", x.move(0, 1), 2);
        x.keep(1);
        check.due("without a way", x.move(0, 0), -1);
    }

    private void arcs() {
        check.begin("moves 2 to 5");
        int[][] arcs = {{2, 8, 6, 1}, {3, 8, 2, 7}, {4, 0, 2, 1}, {5, 0, 6, 7}};
        for (int[] arc : arcs) {
            ParkWays x = new ParkWays(9, 9, 8);
            x.car(1, 1, 2);
            Scene.fromTo(x, Scene.place(4, 4, 0), Scene.place(arc[1], arc[2], arc[3]));
            check.dueWay(x, arc[0]);
        }
        int[][] square = {{2, 6, 6, 2}, {3, 6, 2, 6}, {4, 2, 2, 2}, {5, 2, 6, 6}};
        for (int[] arc : square) {
            ParkWays x = new ParkWays(9, 9, 4);
            x.car(1, 1, 2);
            Scene.fromTo(x, Scene.place(4, 4, 0), Scene.place(arc[1], arc[2], arc[3]));
            check.dueWay(x, arc[0]);
            // Each place of the arc bars it: those before the turn, the turn, those behind it, the first.
            int signX = arc[1] > 4 ? 1 : -1;
            int signY = arc[2] > 4 ? 1 : -1;
            int[][] on = {{4 + signX, 4}, {4 + 2 * signX, 4}, {arc[1], 4 + signY}};
            for (int[] cell : on) {
                x.cell(cell[0], cell[1], true);
                // Round the square the other way: the arc that undoes this one, three times.
                check.dueWay(x, 7 - arc[0], 7 - arc[0], 7 - arc[0]);
                x.cell(cell[0], cell[1], false);
            }
            x.cell(4 + signX, 4 + signY, true);
            check.dueWay(x, arc[0]);
            x.cell(4, 4, true);
            check.due("the first place is barred", x.way(ALL), 0);
        }
        // The place of the turn with either heading: a long car does not get round in a lane of one cell.
        ParkWays lane = new ParkWays(9, 9, 4);
        lane.car(3, 1, 2);
        Scene.fromTo(lane, Scene.place(4, 4, 0), Scene.place(6, 6, 2));
        check.dueWay(lane, 2);
        lane.cell(7, 4, true);
        // The turn with the heading before: it would reach to (7, 4).
        check.dueWay(lane, 4, 0, 3, 2, 1);
        lane.cell(7, 4, false);
        lane.cell(6, 3, true);
        // The turn with the heading behind: it would reach to (6, 3).
        check.dueWay(lane, 4, 0, 3, 2, 1);
        lane.cell(6, 3, false);
        lane.cell(6, 7, true);
        check.due("the last place", lane.way(ALL), 0);
        lane.cell(6, 7, false);
        lane.cell(3, 4, true);
        check.due("the first place", lane.way(ALL), 0);
    }

    private void exact() {
        check.begin("promise 10");
        ParkWays x = new ParkWays(5, 1, 8);
        check.due("before a search", x.exact(), false);
        x.way(-5);
        check.due("a refusal is no search", x.exact(), false);
        x.way(1);
        check.due("not spent", x.exact(), true);
        x.way(0);
        check.due("spent", x.exact(), false);
        x.stand(4, 0, 0);
        x.way(ALL);
        check.due("a way", x.exact(), true);
        x.cell(2, 0, true);
        check.due("the last search, without its way", x.exact(), true);
        x.way(ALL);
        check.due("none, but not spent", x.exact(), true);
        // Two steps back; with the cell between them full, only longer ways are left.
        ParkWays y = Scene.fromTo(new ParkWays(7, 5, 8), Scene.place(4, 1, 0), Scene.place(2, 1, 0));
        long steps = 0;
        while (steps < 100 && y.way(steps) < 0) {
            steps++;
        }
        check.due("two moves", y.way(steps), 2);
        check.due("exact", y.exact(), true);
        check.due("another way takes more steps", y.change(3, 1, true), 2);
        check.due("by change: spent", y.exact(), false);
    }

    private void follow() {
        check.begin("promise 11");
        ParkWays x = new ParkWays(8, 1, 8);
        check.due("no way", x.follow(1, 0.0), 0);
        check.due("n is 0, without a way", x.follow(0, 0.0), -2);
        Scene.fromTo(x, Scene.place(0, 0, 0), Scene.place(6, 0, 0));
        x.way(ALL);
        check.due("n is 1001", x.follow(1001, 0.0), -2);
        check.due("n is far below", x.follow(Integer.MIN_VALUE, 0.0), -2);
        check.due("slip above", x.follow(1, Math.nextUp(1.0)), -2);
        check.due("slip below", x.follow(1, -Math.nextUp(1.0)), -2);
        check.due("slip is no number", x.follow(1, Double.NaN), -2);
        check.due("slip without end", x.follow(1, Double.NEGATIVE_INFINITY), -2);
        check.dueDouble("no slip yet", x.error(), 0.0);
        check.due("two", x.follow(2, 0.0), 1);
        // Where the car is shows in change(): behind it a cell may be full, before it not.
        check.due("full behind the car", x.change(1, 0, true), 0);
        x.release(false);
        check.due("nobody holds on", x.follow(4, 0.25), 2);
        check.due("refusals go before that", x.follow(0, 1.0), -2);
        check.dueDouble("it made none", x.error(), 0.0);
        x.release(true);
        check.due("three, so that one is left", x.follow(3, 0.0), 1);
        check.due("full where it went", x.change(4, 0, true), 0);
        check.due("all that are left", x.follow(1000, 0.0), 1);
        check.due("none are left", x.follow(1, 0.0), 1);
        x.release(false);
        check.due("none are left to stop before", x.follow(1, 0.0), 1);
        check.due("at the goal: none needed", x.way(ALL), 0);
        check.due("a way without moves, nobody holds on", x.follow(1, 0.0), 1);
        x.keep(0);
        check.due("no way, nobody holds on", x.follow(1, 0.0), 0);
    }

    private void error() {
        check.begin("promise 12");
        ParkWays x = new ParkWays(20, 1, 8);
        check.dueDouble("at first", x.error(), 0.0);
        Scene.fromTo(x, Scene.place(0, 0, 0), Scene.place(19, 0, 0));
        x.way(ALL);
        x.follow(2, 0.25);
        check.dueDouble("0.5 is not above 0.5", x.error(), 0.5);
        x.follow(1, 0.25);
        check.dueDouble("0.75 is: 1.0 less", x.error(), -0.25);
        x.follow(1, -0.25);
        check.dueDouble("-0.5 is not below -0.5", x.error(), -0.5);
        x.follow(1, -0.25);
        check.dueDouble("-0.75 is: 1.0 more", x.error(), 0.25);
        check.due("the greatest slip", x.follow(1, 1.0), 1);
        check.dueDouble("1.25, 1.0 less", x.error(), 0.25);
        check.due("the least slip", x.follow(1, -1.0), 1);
        check.dueDouble("-0.75, 1.0 more", x.error(), 0.25);
        x.follow(3, 0.1);
        check.dueDouble("each move adds", x.error(), 0.25 + 0.1 + 0.1 + 0.1 - 1.0);
        double left = x.error();
        x.stand(19, 0, 0);
        x.way(ALL);
        x.follow(5, 0.5);
        check.dueDouble("no move, no slip; standing elsewhere leaves it", x.error(), left);
    }

    private void change() {
        check.begin("promise 13");
        ParkWays x = new ParkWays(8, 1, 8);
        check.due("no way", x.change(4, 0, true), 0);
        check.due("but the cell is full", x.cell(4, 0, true), 0);
        check.due("no way, back", x.change(4, 0, false), 0);
        check.dueThrow("x too great", () -> x.change(8, 0, true));
        check.dueThrow("x below 0", () -> x.change(-1, 0, true));
        check.dueThrow("y too great", () -> x.change(0, 1, false));
        check.dueThrow("y below 0", () -> x.change(0, -1, false));
        check.dueThrow("far off", () -> x.change(Integer.MIN_VALUE, Integer.MAX_VALUE, false));
        Scene.fromTo(x, Scene.place(0, 0, 0), Scene.place(5, 0, 0));
        x.way(ALL);
        check.due("full beside the way", x.change(6, 0, true), 0);
        check.dueThrow("no such cell", () -> x.change(8, 0, true));
        check.due("the way stays", x.move(4, 1), 5);
        x.follow(2, 0.0);
        check.due("full where it was", x.change(1, 0, true), 0);
        check.due("the way stays, too", x.move(0, 1), 1);
        check.due("full before it", x.change(4, 0, true), 2);
        check.due("exact", x.exact(), true);
        check.due("no way then", x.follow(1, 0.0), 0);
        check.due("not full again: still no way", x.change(4, 0, false), 0);
        check.due("from where the car is", x.way(ALL), 3);
        check.due("the car's own cell", x.change(2, 0, true), 2);
        // All moves made: nothing of the way is left that could be barred.
        ParkWays y = Scene.fromTo(new ParkWays(8, 1, 8), Scene.place(0, 0, 0), Scene.place(2, 0, 0));
        y.way(ALL);
        y.follow(9, 0.0);
        check.due("full below the car at the goal", y.change(2, 0, true), 0);
        check.due("the way stays", y.follow(1, 0.0), 1);
    }

    private void changePlansAnew() {
        check.begin("promise 13, planned anew");
        ParkWays x = Scene.fromTo(new ParkWays(8, 3, 8), Scene.place(0, 1, 0), Scene.place(6, 1, 0));
        x.way(ALL);
        x.follow(1, 0.0);
        check.due("round the full cell", x.change(4, 1, true), 1);
        check.due("exact", x.exact(), true);
        check.due("from where the car is", Math.abs(x.move(0, 1) - 1) <= 2, true);
        int moves = 0;
        while (moves < 100 && x.move(moves, 0) >= 0) {
            check.due("not over the full cell", x.margin(moves) > 0, true);
            moves++;
        }
        check.due("to the goal, x", x.move(moves - 1, 1), 6);
        check.due("to the goal, y", x.move(moves - 1, 2), 1);
        check.due("its moves begin anew", x.follow(moves - 1, 0.0), 1);
        check.due("so one is left", x.change(6, 1, true), 2);
        // A shorter way that opens is not looked for.
        ParkWays y = new ParkWays(9, 7, 4);
        y.cell(4, 3, true);
        Scene.fromTo(y, Scene.place(0, 3, 0), Scene.place(8, 3, 0));
        check.due("round it", hasArcs(y, y.way(ALL)), true);
        check.due("a way that opens", y.change(4, 3, false), 0);
        check.due("the way stays", hasArcs(y, 8), true);
        check.dueWay(y, 0, 0, 0, 0, 0, 0, 0, 0);
        // As many steps as before: what was enough for the straight way is not for the one round.
        ParkWays few = Scene.fromTo(new ParkWays(9, 7, 4), Scene.place(4, 3, 0), Scene.place(2, 3, 0));
        int steps = 0;
        while (few.way(steps) < 0 && steps < 500) {
            steps++;
        }
        check.due("too few steps", few.change(3, 3, true), 2);
        check.due("spent", few.exact(), false);
        few.change(3, 3, false);
        few.way(ALL);
        check.due("enough steps", few.change(3, 3, true), 1);
        check.due("not spent", few.exact(), true);
    }

    private static boolean hasArcs(ParkWays x, int moves) {
        boolean has = false;
        for (int i = 0; i < moves; i++) {
            has = has || x.move(i, 0) >= 2;
        }
        return has;
    }

    private void release() {
        check.begin("promise 14");
        ParkWays x = new ParkWays(5, 1, 8);
        check.due("held at first", x.release(true), 0);
        check.due("let go", x.release(false), 1);
        check.due("let go already", x.release(false), 0);
        Scene.fromTo(x, Scene.place(0, 0, 0), Scene.place(2, 0, 0));
        x.way(ALL);
        check.due("stops", x.follow(1, 0.0), 2);
        check.due("hold on", x.release(true), 1);
        check.due("the way is still there", x.follow(2, 0.0), 1);
    }

    private void margin() {
        check.begin("promise 15");
        ParkWays x = Scene.fromTo(new ParkWays(24, 24, 8), Scene.place(0, 0, 0), Scene.place(3, 0, 0));
        check.due("before a search", x.margin(0), -1);
        x.way(ALL);
        check.due("without a full cell", x.margin(0), 9);
        check.due("no such move", x.margin(3), -1);
        check.due("below 0", x.margin(-1), -1);
        check.due("far off", x.margin(Integer.MIN_VALUE) + x.margin(Integer.MAX_VALUE), -2);
        x.change(1, 10, true);
        check.due("10 is 9", x.margin(0), 9);
        x.change(1, 9, true);
        check.due("9", x.margin(0), 9);
        x.change(9, 8, true);
        check.due("8 in both", x.margin(0), 8);
        x.change(4, 2, true);
        check.due("the greater of both: y", x.margin(2), 2);
        check.due("the greater of both: x", x.margin(0), 3);
        x.follow(1, 0.0);
        check.due("full behind the car", x.change(1, 0, true), 2);
        Scene.fromTo(x, Scene.place(5, 0, 0), Scene.place(8, 0, 0));
        x.way(ALL);
        x.follow(2, 0.0);
        check.due("full where the car was", x.change(6, 0, true), 0);
        check.due("0 there", x.margin(0), 0);
        ParkWays y = new ParkWays(12, 6, 8);
        y.car(4, 2, 1);
        Scene.fromTo(y, Scene.place(2, 1, 0), Scene.place(3, 1, 0));
        y.cell(8, 0, true);
        y.way(ALL);
        // At (3, 1) it covers x 2 to 5, y 1 to 2.
        check.due("from the nearest of its cells, in x", y.margin(0), 3);
        y.cell(8, 0, false);
        y.cell(3, 5, true);
        y.way(ALL);
        check.due("from the nearest of its cells, in y", y.margin(0), 3);
    }

    private void heading() {
        check.begin("promise 16");
        int[] steps = {7, 8, 5, 2, 1, 0, 3, 6};
        ParkWays eight = new ParkWays(3, 3, 8);
        ParkWays four = new ParkWays(3, 3, 4);
        for (int h = 0; h < 8; h++) {
            check.due("heading(" + h + ")", eight.heading(h), steps[h]);
            check.due("heading(" + h + ") of a field with four", four.heading(h), steps[h]);
        }
        for (int h : new int[] {-1, 8, 16, Integer.MIN_VALUE, Integer.MAX_VALUE}) {
            check.dueThrow("heading(" + h + ")", () -> eight.heading(h));
        }
    }
}
