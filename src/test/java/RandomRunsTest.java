/** Runs of 512 calls by a fixed row of numbers, each answer held against the plain model's. */
public final class RandomRunsTest {
    private static final int CALLS = 512;
    private static final int[] ODD_NUMBERS = {Integer.MIN_VALUE, -33, -1, 0, 24, 25, 32, 256, Integer.MAX_VALUE};
    private static final double[] SLIPS = {0.0, 1.0, -1.0, 0.5, -0.5, 0.25, -0.3, 0.1, 0.7, -0.75};
    private static final double[] ODD_SLIPS = {Double.NaN, 1.0000001, -1.0000001, 2.0,
        Double.NEGATIVE_INFINITY, Double.POSITIVE_INFINITY, Double.MIN_VALUE, -0.0};

    private final Check check = new Check();
    private long seed;
    private ParkWays program;
    private PlainModel model;
    private int waysFound;
    private int searchesSpent;
    private int plannedAnew;

    public static void main(String[] args) {
        RandomRunsTest test = new RandomRunsTest();
        int[][] fields = {{1, 1}, {2, 2}, {6, 1}, {1, 7}, {4, 3}, {5, 5}, {7, 6}, {8, 6}, {9, 5}, {10, 9}, {3, 12}};
        for (int run = 0; run < 440; run++) {
            int[] field = fields[run % fields.length];
            test.run(run, field[0], field[1], run % 2 == 0 ? 8 : 4, run % 3 == 0);
        }
        test.run(1000, 0, 25, 3, false);
        test.run(1001, 24, 24, 4, false);
        test.dueEnough();
        test.check.end("RandomRunsTest");
    }

    /** A run of refusals alone would show little. */
    private void dueEnough() {
        check.begin("all runs");
        System.out.println(waysFound + " ways, " + searchesSpent + " searches spent, " + plannedAnew + " planned anew");
        check.due("enough ways", waysFound > 1000, true);
        check.due("enough searches spent", searchesSpent > 500, true);
        check.due("enough planned anew", plannedAnew > 100, true);
    }

    private int below(int bound) {
        seed = seed * 6364136223846793005L + 1442695040888963407L;
        return (int) ((seed >>> 33) % bound);
    }

    private int oddOr(int usual) {
        return below(25) == 0 ? ODD_NUMBERS[below(ODD_NUMBERS.length)] : usual;
    }

    private void run(int run, int width, int height, int headings, boolean largeCars) {
        check.begin("run " + run);
        seed = run * 7919L + 17;
        program = new ParkWays(width, height, headings);
        model = new PlainModel(width, height, headings);
        boolean large = model.width() * model.height() > 200;
        int faultsBefore = check.wrong();
        int calls = large ? 200 : CALLS;
        for (int i = 0; i < calls && check.wrong() == faultsBefore; i++) {
            i += call(i, largeCars, calls - i - 1);
        }
    }

    /** Makes a call, and asks for all of a new way as long as calls are left; answers how many more were made. */
    private int call(int i, boolean largeCars, int left) {
        // With moves left on a way, calls that follow it are the more likely ones.
        int kind = model.wayLength() > 0 && below(3) != 0 ? 64 + below(36) : below(100);
        if (kind < 8) {
            cell();
        } else if (kind < 11) {
            car(largeCars);
        } else if (kind < 13) {
            int cells = oddOr(below(3) == 0 ? below(4) : 0);
            check.due("keep(" + cells + ")", program.keep(cells), model.keep(cells));
        } else if (kind < 27) {
            stand();
        } else if (kind < 35) {
            int side = oddOr(below(2));
            int least = oddOr(1 + below(model.width()));
            check.due("space(" + side + ", " + least + ")", program.space(side, least), model.space(side, least));
        } else if (kind < 41) {
            check.due("out()", program.out(), model.out());
        } else if (kind < 61) {
            return way() ? askWay(left) : 0;
        } else if (kind < 64) {
            int h = oddOr(below(8));
            check.due("heading(" + h + ")", programHeading(h), model.heading(h));
        } else if (kind < 67) {
            boolean held = below(4) != 0;
            check.due("release(" + held + ")", program.release(held), model.release(held));
        } else if (kind < 79) {
            follow();
        } else if (kind < 93) {
            return change() ? askWay(left) : 0;
        } else {
            askOne(oddOr(below(8)), oddOr(below(5)));
        }
        check.due("exact()", program.exact(), model.exact());
        check.dueDouble("error()", program.error(), model.error());
        return 0;
    }

    private void cell() {
        int x = oddOr(below(model.width()));
        int y = oddOr(below(model.height()));
        boolean full = below(4) == 0;
        check.due("cell(" + x + ", " + y + ", " + full + ")", programCell(x, y, full), model.cell(x, y, full));
    }

    private void car(boolean large) {
        int length = oddOr(large ? 1 + below(8) : 1 + below(4) / 3);
        int wide = oddOr(large ? 1 + below(6) : 1);
        int radius = oddOr(large ? 1 + below(5) : 1 + below(2));
        check.due("car(" + length + ", " + wide + ", " + radius + ")",
                program.car(length, wide, radius), model.car(length, wide, radius));
    }

    private void stand() {
        int x = oddOr(below(model.width()));
        int y = oddOr(below(model.height()));
        int heading = below(8) == 0 ? oddOr(8) : below(4) * 2 + (below(2) & below(2));
        check.due("stand(" + x + ", " + y + ", " + heading + ")",
                program.stand(x, y, heading), model.stand(x, y, heading));
    }

    private boolean way() {
        long steps = 1000000;
        if (below(3) == 0) {
            steps = below(2) == 0 ? below(60) : below(5) - 1;
        } else if (below(10) == 0) {
            steps = below(2) == 0 ? Long.MAX_VALUE : Long.MIN_VALUE;
        }
        long want = model.way(steps);
        check.due("way(" + steps + ")", program.way(steps), want);
        waysFound += want > 0 ? 1 : 0;
        searchesSpent += want == -1 ? 1 : 0;
        return true;
    }

    private void follow() {
        int n = oddOr(1 + below(3));
        double slip = below(12) == 0 ? ODD_SLIPS[below(ODD_SLIPS.length)] : SLIPS[below(SLIPS.length)];
        check.due("follow(" + n + ", " + slip + ")", program.follow(n, slip), model.follow(n, slip));
    }

    /** Mostly a cell that the way goes over, so that it has to be planned anew. */
    private boolean change() {
        int x = oddOr(below(model.width()));
        int y = oddOr(below(model.height()));
        if (model.wayLength() > 0 && below(3) != 0) {
            PlainModel.Place place = model.placeOnWay(below(model.wayLength()));
            x = place.x();
            y = place.y();
        }
        boolean full = below(5) < 2;
        long want = model.change(x, y, full);
        check.due("change(" + x + ", " + y + ", " + full + ")", programChange(x, y, full), want);
        plannedAnew += want == 1 ? 1 : 0;
        return want == 1 || want == 2;
    }

    private int askWay(int left) {
        check.due("exact()", program.exact(), model.exact());
        int asked = 0;
        for (int i = 0; i <= model.wayLength() && asked + 5 <= left / 4; i++) {
            for (int what = 0; what < 4; what++) {
                askOne(i, what);
            }
            asked += 5;
        }
        return asked;
    }

    private void askOne(int i, int what) {
        check.due("move(" + i + ", " + what + ")", program.move(i, what), model.move(i, what));
        check.due("margin(" + i + ")", program.margin(i), model.margin(i));
    }

    private long programCell(int x, int y, boolean full) {
        try {
            return program.cell(x, y, full);
        } catch (ArrayIndexOutOfBoundsException thrown) {
            return thrownAnswer(thrown);
        }
    }

    private long programChange(int x, int y, boolean full) {
        try {
            return program.change(x, y, full);
        } catch (ArrayIndexOutOfBoundsException thrown) {
            return thrownAnswer(thrown);
        }
    }

    private long programHeading(int h) {
        try {
            return program.heading(h);
        } catch (ArrayIndexOutOfBoundsException thrown) {
            return thrownAnswer(thrown);
        }
    }

    private long thrownAnswer(ArrayIndexOutOfBoundsException thrown) {
        if (!Check.isThrownByHand(thrown)) {
            check.tell("the machine threw " + thrown);
        }
        return PlainModel.THROWS;
    }
}
