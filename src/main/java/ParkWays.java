import java.util.Arrays;

/** Parking on a field of cells: the way with the fewest moves to a space, followed move by move. */
public final class ParkWays {
    private static final int[] STEP_X = {1, 1, 0, -1, -1, -1, 0, 1};
    private static final int[] STEP_Y = {0, 1, 1, 1, 0, -1, -1, -1};
    private static final int HEADINGS = 8;
    private static final int MOVES = 6;
    private static final int FIRST_ARC = 2;

    private static final int LONGEST_SIDE = 24;
    private static final int OTHER_SIDE = 16;
    private static final int LONGEST_CAR = 7;
    private static final int WIDEST_CAR = 5;
    private static final int GREATEST_RADIUS = 4;
    private static final int MOST_KEEP = 3;
    private static final int MOST_MARGIN = 9;
    private static final int MOST_FOLLOWED = 1000;

    private static final int OUTSIDE = -2;
    private static final int NOT_NOW = -3;
    private static final int NONE = -1;

    private final Field field;
    private final Car car;
    private final Search search;
    private final Way way;
    private int place;
    private int home;
    private int goal;
    private long steps;
    private boolean exact;
    private boolean held = true;
    private double error;

    public ParkWays(int width, int height, int headings) {
        field = new Field(sideOf(width), sideOf(height), headings == 4 ? 2 : 1);
        car = new Car(field);
        search = new Search(car, field.placeRoom());
        way = new Way(field.placeRoom());
    }

    public int cell(int x, int y, boolean full) throws ArrayIndexOutOfBoundsException {
        if (!field.hasCell(x, y)) {
            throw new ArrayIndexOutOfBoundsException("no such cell");
        }
        way.drop();
        return setCell(x, y, full) ? 1 : 0;
    }

    public int car(int length, int wide, int radius) {
        if (!isFrom(1, length, LONGEST_CAR) || !isFrom(1, wide, WIDEST_CAR) || !isFrom(1, radius, GREATEST_RADIUS)) {
            return 0;
        }
        car.build(length, wide, radius);
        way.drop();
        return 1;
    }

    public int keep(int cells) {
        if (!isFrom(0, cells, MOST_KEEP)) {
            return OUTSIDE;
        }
        int before = field.keep;
        field.setKeep(cells);
        car.forget();
        way.drop();
        return before;
    }

    public int stand(int x, int y, int heading) {
        if (!field.hasCell(x, y) || !field.hasHeading(heading)) {
            return OUTSIDE;
        }
        int there = placeAt(x, y, heading);
        if (!car.isFree(there)) {
            return NOT_NOW;
        }
        place = there;
        home = there;
        way.drop();
        return 1;
    }

    public int space(int side, int least) {
        if (!isFrom(1, least, field.width)) {
            return OUTSIDE;
        }
        int y = side == 0 ? 0 : field.height - 1;
        int first = field.firstRun(y, least);
        if (first < 0) {
            return 0;
        }
        goal = placeAt(first + (field.runLength(first, y) - 1) / 2, y, 0);
        way.drop();
        return first + 1;
    }

    public int out() {
        if (goal == home) {
            return 0;
        }
        goal = home;
        way.drop();
        return 1;
    }

    public int way(long steps) {
        if (steps < 0) {
            return OUTSIDE;
        }
        this.steps = steps;
        plan();
        return exact ? way.count : NONE;
    }

    public int move(int i, int what) {
        if (!way.hasMove(i)) {
            return NONE;
        }
        int behind = way.placeBehind(i);
        switch (what) {
            case 0:
                return way.moveAt(i);
            case 1:
                return xOf(behind);
            case 2:
                return yOf(behind);
            case 3:
                return headingOf(behind);
            default:
                return OUTSIDE;
        }
    }

    public boolean exact() {
        return exact;
    }

    public int follow(int n, double slip) {
        // Asked this way round, a slip that is not a number is outside the range, too.
        boolean slipIsInRange = slip >= -1.0 && slip <= 1.0;
        if (!isFrom(1, n, MOST_FOLLOWED) || !slipIsInRange) {
            return OUTSIDE;
        }
        if (!way.stands) {
            return 0;
        }
        for (int i = 0; i < n && way.hasMove(way.made); i++) {
            if (!held) {
                return 2;
            }
            place = way.placeBehind(way.made);
            way.made++;
            addToError(slip);
        }
        return 1;
    }

    public double error() {
        return error;
    }

    public int change(int x, int y, boolean full) throws ArrayIndexOutOfBoundsException {
        if (!field.hasCell(x, y)) {
            throw new ArrayIndexOutOfBoundsException("no such cell");
        }
        setCell(x, y, full);
        if (!way.stands || movesLeftMayBeMade()) {
            return 0;
        }
        plan();
        return way.stands ? 1 : 2;
    }

    public int release(boolean held) {
        boolean isAnother = this.held != held;
        this.held = held;
        return isAnother ? 1 : 0;
    }

    public int margin(int i) {
        return way.hasMove(i) ? car.marginAt(way.placeBehind(i)) : NONE;
    }

    public int heading(int h) throws ArrayIndexOutOfBoundsException {
        if (!isFrom(0, h, HEADINGS - 1)) {
            throw new ArrayIndexOutOfBoundsException("no such heading");
        }
        return 3 * (stepX(h) + 1) + stepY(h) + 1;
    }

    private boolean setCell(int x, int y, boolean full) {
        boolean isAnother = field.setFull(x, y, full);
        if (isAnother) {
            car.forget();
        }
        return isAnother;
    }

    private void addToError(double slip) {
        error = error + slip;
        if (error > 0.5) {
            error = error - 1.0;
        } else if (error < -0.5) {
            error = error + 1.0;
        }
    }

    private boolean movesLeftMayBeMade() {
        int at = place;
        for (int i = way.made; i < way.count; i++) {
            if (!car.mayMake(at, way.moveAt(i))) {
                return false;
            }
            at = way.placeBehind(i);
        }
        return true;
    }

    private void plan() {
        way.drop();
        search.spreadFrom(goal);
        boolean leads = search.hasReached(place);
        exact = leads ? search.takenBefore(place) < steps : search.reached <= steps;
        way.stands = exact && leads;
        int at = place;
        for (int i = 0; way.stands && i < search.reached && at != goal; i++) {
            int move = search.firstMoveFrom(at);
            at = car.landing(at, move);
            way.add(move, at);
        }
    }

    private static int sideOf(int told) {
        return isFrom(1, told, LONGEST_SIDE) ? told : OTHER_SIDE;
    }

    private static boolean isFrom(int least, int number, int most) {
        return number >= least && number <= most;
    }

    // A cell is the number 32 y + x, a PLACE is 8 cells + HEADING: their order is that by y, x, HEADING.

    private static int cellAt(int x, int y) {
        return (y << 5) + x;
    }

    private static int placeAt(int x, int y, int heading) {
        return (cellAt(x, y) << 3) + heading;
    }

    private static int xOf(int place) {
        return (place >> 3) & 31;
    }

    private static int yOf(int place) {
        return place >> 8;
    }

    private static int headingOf(int place) {
        return place & 7;
    }

    // HEADINGS go round: that behind 7 is 0.

    private static int stepX(int heading) {
        return STEP_X[heading & 7];
    }

    private static int stepY(int heading) {
        return STEP_Y[heading & 7];
    }

    /** The cells, and how many FULL ones are within KEEP of each. */
    private static final class Field {
        private final int width;
        private final int height;
        private final int turn;
        private final boolean[] full;
        private final int[] fullWithinKeep;
        private int keep;

        /** Width and height are 1 to 24; the numbers of neighbouring HEADINGS differ by turn. */
        Field(int width, int height, int turn) {
            this.width = width;
            this.height = height;
            this.turn = turn;
            full = new boolean[height << 5];
            fullWithinKeep = new int[height << 5];
        }

        /** How many numbers there are for PLACES, those that stand for none among them. */
        int placeRoom() {
            return height << 8;
        }

        boolean hasCell(int x, int y) {
            return x >= 0 && x < width && y >= 0 && y < height;
        }

        boolean hasHeading(int heading) {
            return isFrom(0, heading, HEADINGS - 1) && (turn == 1 || (heading & 1) == 0);
        }

        boolean isFull(int x, int y) {
            return hasCell(x, y) && full[cellAt(x, y)];
        }

        boolean isKeptClear(int x, int y) {
            return hasCell(x, y) && fullWithinKeep[cellAt(x, y)] == 0;
        }

        /** Answers whether that is another way than before. */
        boolean setFull(int x, int y, boolean now) {
            if (!hasCell(x, y) || full[cellAt(x, y)] == now) {
                return false;
            }
            full[cellAt(x, y)] = now;
            countAround(x, y, now ? 1 : -1);
            return true;
        }

        void setKeep(int cells) {
            keep = cells;
            Arrays.fill(fullWithinKeep, 0);
            for (int y = 0; y < height; y++) {
                for (int x = 0; x < width; x++) {
                    if (isFull(x, y)) {
                        countAround(x, y, 1);
                    }
                }
            }
        }

        private void countAround(int x, int y, int by) {
            for (int v = y - keep; v <= y + keep; v++) {
                for (int u = x - keep; u <= x + keep; u++) {
                    if (hasCell(u, v)) {
                        fullWithinKeep[cellAt(u, v)] += by;
                    }
                }
            }
        }

        /** How many cells from this one on are not FULL, one behind the other. */
        int runLength(int x, int y) {
            int count = 0;
            for (int u = x; u < width && !isFull(u, y); u++) {
                count++;
            }
            return count;
        }

        /** The first x of the first run in the row that is long enough; NONE without one. */
        int firstRun(int y, int least) {
            for (int x = 0; x < width; x++) {
                if (runLength(x, y) >= least) {
                    return x;
                }
            }
            return NONE;
        }

        /** The greater distance, in x or y, to the nearest FULL cell; most, if it is not nearer. */
        int distanceToFull(int x, int y, int most) {
            int nearest = most;
            for (int v = y - most; v <= y + most; v++) {
                for (int u = x - most; u <= x + most; u++) {
                    if (isFull(u, v)) {
                        nearest = Math.min(nearest, Math.max(Math.abs(u - x), Math.abs(v - y)));
                    }
                }
            }
            return nearest;
        }
    }

    /** What THE CAR covers, where it is FREE, and the MOVES that it may make. */
    private static final class Car {
        private static final int UNKNOWN = 0;
        private static final int FREE = 1;
        private static final int BARRED = 2;

        private final Field field;
        // A PLACE is looked at from many MOVES of one search: what it was found to be is kept.
        private final int[] known;
        private int length = 1;
        private int wide = 1;
        private int radius = 1;

        Car(Field field) {
            this.field = field;
            known = new int[field.placeRoom()];
        }

        void build(int length, int wide, int radius) {
            this.length = length;
            this.wide = wide;
            this.radius = radius;
            forget();
        }

        void forget() {
            Arrays.fill(known, UNKNOWN);
        }

        boolean isFree(int place) {
            if (place < 0 || place >= known.length) {
                return false;
            }
            if (known[place] == UNKNOWN) {
                known[place] = coversClearCells(place) ? FREE : BARRED;
            }
            return known[place] == FREE;
        }

        private boolean coversClearCells(int place) {
            for (int i = -((length - 1) / 2); i <= length / 2; i++) {
                for (int j = -((wide - 1) / 2); j <= wide / 2; j++) {
                    if (!field.isKeptClear(coveredX(place, i, j), coveredY(place, i, j))) {
                        return false;
                    }
                }
            }
            return true;
        }

        int marginAt(int place) {
            int least = MOST_MARGIN;
            for (int i = -((length - 1) / 2); i <= length / 2; i++) {
                for (int j = -((wide - 1) / 2); j <= wide / 2; j++) {
                    least = field.distanceToFull(coveredX(place, i, j), coveredY(place, i, j), least);
                }
            }
            return least;
        }

        private static int coveredX(int place, int i, int j) {
            int heading = headingOf(place);
            return xOf(place) + i * stepX(heading) + j * stepX(heading + 2);
        }

        private static int coveredY(int place, int i, int j) {
            int heading = headingOf(place);
            return yOf(place) + i * stepY(heading) + j * stepY(heading + 2);
        }

        /** The PLACE behind a MOVE, be it FREE or not; NONE outside the FIELD. */
        int landing(int place, int move) {
            int sense = senseOf(move);
            if (!isArc(move)) {
                return shifted(place, sense);
            }
            return shifted(turned(shifted(place, sense * radius), move), sense * radius);
        }

        boolean mayMake(int place, int move) {
            int sense = senseOf(move);
            int last = isArc(move) ? radius : 1;
            // An arc has a second part, from the turn on; other MOVES have not: there it is the first again.
            int second = isArc(move) ? turned(shifted(place, sense * radius), move) : place;
            for (int k = 0; k <= last; k++) {
                if (!isFree(shifted(place, sense * k)) || !isFree(shifted(second, sense * k))) {
                    return false;
                }
            }
            return true;
        }

        int lengthOf(int move) {
            return isArc(move) ? 2 * radius : 1;
        }

        static boolean isArc(int move) {
            return move >= FIRST_ARC;
        }

        /** 1 for MOVES that go on, -1 for those that go back. */
        private static int senseOf(int move) {
            return move == 0 || move == 2 || move == 3 ? 1 : -1;
        }

        private int shifted(int place, int by) {
            if (place < 0) {
                return NONE;
            }
            int heading = headingOf(place);
            int x = xOf(place) + by * stepX(heading);
            int y = yOf(place) + by * stepY(heading);
            return field.hasCell(x, y) ? placeAt(x, y, heading) : NONE;
        }

        private int turned(int place, int move) {
            if (place < 0) {
                return NONE;
            }
            int next = (move & 1) == 0 ? field.turn : -field.turn;
            return placeAt(xOf(place), yOf(place), (headingOf(place) + next) & 7);
        }
    }

    /** How the way from each PLACE to the GOAL is: one number orders by MOVES, then LENGTHS, then arcs. */
    private static final class Search {
        private static final long ONE_MOVE = 1L << 40;
        private static final long ONE_LENGTH = 1L << 20;
        private static final long ONE_ARC = 1L;
        private static final long UNREACHED = 1L << 60;

        private final Car car;
        private final long[] cost;
        private final int[] queue;
        private int reached;

        Search(Car car, int placeRoom) {
            this.car = car;
            cost = new long[placeRoom];
            queue = new int[placeRoom];
        }

        /**
         * Each MOVE is undone by another of its kind over the same PLACES, so that going from the GOAL
         * finds the ways to it. As MOVES count first, a PLACE's cost is final when its turn comes.
         */
        void spreadFrom(int goal) {
            Arrays.fill(cost, UNREACHED);
            reached = 0;
            if (!car.isFree(goal)) {
                return;
            }
            reach(goal, 0L);
            for (int taken = 0; taken < reached && taken < queue.length; taken++) {
                int place = queue[taken];
                for (int move = 0; move < MOVES; move++) {
                    int landing = car.landing(place, move);
                    long through = costAt(place) + costOf(move);
                    // The cells are looked at last, as this is the dearest question.
                    if (through < costAt(landing) && car.mayMake(place, move)) {
                        reach(landing, through);
                    }
                }
            }
        }

        private void reach(int place, long through) {
            if (place < 0 || place >= cost.length) {
                return;
            }
            if (cost[place] == UNREACHED && reached < queue.length) {
                queue[reached] = place;
                reached++;
            }
            cost[place] = through;
        }

        boolean hasReached(int place) {
            return costAt(place) < UNREACHED;
        }

        int takenBefore(int place) {
            long own = costAt(place);
            int count = 0;
            for (int i = 0; i < reached && i < queue.length; i++) {
                long other = costAt(queue[i]);
                if (other < own || (other == own && queue[i] < place)) {
                    count++;
                }
            }
            return count;
        }

        /** The MOVE of the least number with which the best way from a PLACE begins; NONE without a way. */
        int firstMoveFrom(int place) {
            for (int move = 0; move < MOVES; move++) {
                boolean isBest = costAt(car.landing(place, move)) + costOf(move) == costAt(place);
                if (isBest && car.mayMake(place, move)) {
                    return move;
                }
            }
            return NONE;
        }

        private long costAt(int place) {
            return place >= 0 && place < cost.length ? cost[place] : UNREACHED;
        }

        private long costOf(int move) {
            return ONE_MOVE + car.lengthOf(move) * ONE_LENGTH + (Car.isArc(move) ? ONE_ARC : 0L);
        }
    }

    /** THE WAY: its MOVES with the PLACES behind them, and how many of them were made. */
    private static final class Way {
        private final int[] moves;
        private final int[] places;
        private int count;
        private int made;
        private boolean stands;

        Way(int most) {
            moves = new int[most];
            places = new int[most];
        }

        void drop() {
            stands = false;
            count = 0;
            made = 0;
        }

        void add(int move, int behind) {
            if (count < moves.length && count < places.length) {
                moves[count] = move;
                places[count] = behind;
                count++;
            }
        }

        boolean hasMove(int i) {
            return i >= 0 && i < count;
        }

        int moveAt(int i) {
            return hasMove(i) && i < moves.length ? moves[i] : NONE;
        }

        int placeBehind(int i) {
            return hasMove(i) && i < places.length ? places[i] : NONE;
        }
    }
}
