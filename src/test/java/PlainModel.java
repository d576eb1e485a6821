import java.util.ArrayList;
import java.util.Collections;
import java.util.Comparator;
import java.util.List;

/**
 * The document once more, word by word and slow, to hold ParkWays against. It shares nothing with the
 * program: PLACES are found by listing every cell, ways forward from each PLACE, with all their MOVES.
 */
final class PlainModel {
    static final long THROWS = Long.MIN_VALUE;
    private static final int[][] STEPS = {{1, 0}, {1, 1}, {0, 1}, {-1, 1}, {-1, 0}, {-1, -1}, {0, -1}, {1, -1}};

    record Place(int x, int y, int heading) { }

    record Road(Place from, int count, int length, int arcs, List<Integer> moves) { }

    private static final Comparator<Road> BY_WORTH =
            Comparator.comparingInt(Road::count).thenComparingInt(Road::length).thenComparingInt(Road::arcs);

    private final int width;
    private final int height;
    private final boolean four;
    private final boolean[][] full;
    private int length = 1;
    private int wide = 1;
    private int radius = 1;
    private int keep = 0;
    private Place at = new Place(0, 0, 0);
    private Place home = at;
    private Place goal = at;
    private List<Integer> way;
    private List<Place> behind;
    private int made;
    private long steps;
    private boolean exact;
    private boolean held = true;
    private double error;
    private boolean[][][] free;

    PlainModel(int width, int height, int headings) {
        this.width = width >= 1 && width <= 24 ? width : 16;
        this.height = height >= 1 && height <= 24 ? height : 16;
        four = headings == 4;
        full = new boolean[this.width][this.height];
    }

    int width() {
        return width;
    }

    int height() {
        return height;
    }

    int wayLength() {
        return way == null ? 0 : way.size();
    }

    Place at() {
        return at;
    }

    Place placeOnWay(int i) {
        return behind.get(i);
    }

    long cell(int x, int y, boolean now) {
        if (!inField(x, y)) {
            return THROWS;
        }
        boolean another = full[x][y] != now;
        full[x][y] = now;
        way = null;
        return another ? 1 : 0;
    }

    long car(int length, int wide, int radius) {
        if (length < 1 || length > 7 || wide < 1 || wide > 5 || radius < 1 || radius > 4) {
            return 0;
        }
        this.length = length;
        this.wide = wide;
        this.radius = radius;
        way = null;
        return 1;
    }

    long keep(int cells) {
        if (cells < 0 || cells > 3) {
            return -2;
        }
        int was = keep;
        keep = cells;
        way = null;
        return was;
    }

    long stand(int x, int y, int heading) {
        if (!inField(x, y) || heading < 0 || heading > 7 || (four && heading % 2 == 1)) {
            return -2;
        }
        Place place = new Place(x, y, heading);
        if (!computeFree(place)) {
            return -3;
        }
        at = place;
        home = place;
        way = null;
        return 1;
    }

    long space(int side, int least) {
        if (least < 1 || least > width) {
            return -2;
        }
        int y = side == 0 ? 0 : height - 1;
        int x = 0;
        while (x < width) {
            int n = 0;
            while (x + n < width && !full[x + n][y]) {
                n++;
            }
            if (n >= least) {
                goal = new Place(x + (n - 1) / 2, y, 0);
                way = null;
                return x + 1;
            }
            x += n + 1;
        }
        return 0;
    }

    long out() {
        if (goal.equals(home)) {
            return 0;
        }
        goal = home;
        way = null;
        return 1;
    }

    long way(long steps) {
        if (steps < 0) {
            return -2;
        }
        this.steps = steps;
        search();
        return exact ? wayLength() : -1;
    }

    long move(int i, int what) {
        if (i < 0 || i >= wayLength()) {
            return -1;
        }
        Place place = behind.get(i);
        return switch (what) {
            case 0 -> way.get(i);
            case 1 -> place.x();
            case 2 -> place.y();
            case 3 -> place.heading();
            default -> -2;
        };
    }

    boolean exact() {
        return exact;
    }

    long follow(int n, double slip) {
        if (n < 1 || n > 1000 || Double.isNaN(slip) || slip < -1.0 || slip > 1.0) {
            return -2;
        }
        if (way == null) {
            return 0;
        }
        while (n > 0 && made < way.size()) {
            if (!held) {
                return 2;
            }
            at = behind.get(made);
            made++;
            n--;
            error += slip;
            if (error > 0.5) {
                error -= 1.0;
            } else if (error < -0.5) {
                error += 1.0;
            }
        }
        return 1;
    }

    double error() {
        return error;
    }

    long change(int x, int y, boolean now) {
        if (!inField(x, y)) {
            return THROWS;
        }
        full[x][y] = now;
        if (way == null) {
            return 0;
        }
        fillFree();
        Place place = at;
        boolean open = true;
        for (int i = made; i < way.size(); i++) {
            open = open && mayBeMade(place, way.get(i));
            place = behind.get(i);
        }
        if (open) {
            return 0;
        }
        search();
        return way != null ? 1 : 2;
    }

    long release(boolean held) {
        boolean another = this.held != held;
        this.held = held;
        return another ? 1 : 0;
    }

    long margin(int i) {
        if (i < 0 || i >= wayLength()) {
            return -1;
        }
        int least = 9;
        for (int[] cell : covered(behind.get(i))) {
            for (int x = 0; x < width; x++) {
                for (int y = 0; y < height; y++) {
                    if (full[x][y]) {
                        least = Math.min(least, Math.max(Math.abs(x - cell[0]), Math.abs(y - cell[1])));
                    }
                }
            }
        }
        return least;
    }

    long heading(int h) {
        return h < 0 || h > 7 ? THROWS : 3 * (STEPS[h][0] + 1) + STEPS[h][1] + 1;
    }

    private boolean inField(int x, int y) {
        return x >= 0 && y >= 0 && x < width && y < height;
    }

    private List<int[]> covered(Place place) {
        int[] s = STEPS[place.heading()];
        int[] t = STEPS[(place.heading() + 2) % 8];
        List<int[]> cells = new ArrayList<>();
        for (int i = -((length - 1) / 2); i <= length / 2; i++) {
            for (int j = -((wide - 1) / 2); j <= wide / 2; j++) {
                cells.add(new int[] {place.x() + i * s[0] + j * t[0], place.y() + i * s[1] + j * t[1]});
            }
        }
        return cells;
    }

    private boolean computeFree(Place place) {
        for (int[] cell : covered(place)) {
            if (!inField(cell[0], cell[1])) {
                return false;
            }
            for (int x = cell[0] - keep; x <= cell[0] + keep; x++) {
                for (int y = cell[1] - keep; y <= cell[1] + keep; y++) {
                    if (inField(x, y) && full[x][y]) {
                        return false;
                    }
                }
            }
        }
        return true;
    }

    private List<Place> allPlaces() {
        List<Place> places = new ArrayList<>();
        for (int y = 0; y < height; y++) {
            for (int x = 0; x < width; x++) {
                for (int h = 0; h < 8; h += four ? 2 : 1) {
                    places.add(new Place(x, y, h));
                }
            }
        }
        return places;
    }

    private void fillFree() {
        free = new boolean[width][height][8];
        for (Place place : allPlaces()) {
            free[place.x()][place.y()][place.heading()] = computeFree(place);
        }
    }

    private boolean isFree(Place place) {
        return inField(place.x(), place.y()) && free[place.x()][place.y()][place.heading()];
    }

    private static Place step(Place place, int by) {
        int[] s = STEPS[place.heading()];
        return new Place(place.x() + by * s[0], place.y() + by * s[1], place.heading());
    }

    private List<Place> placesOn(Place from, int move) {
        List<Place> places = new ArrayList<>();
        places.add(from);
        if (move == 0) {
            places.add(step(from, 1));
            return places;
        }
        if (move == 1) {
            places.add(step(from, -1));
            return places;
        }
        int sense = move == 2 || move == 3 ? 1 : -1;
        Place place = from;
        for (int k = 0; k < radius; k++) {
            place = step(place, sense);
            places.add(place);
        }
        int next = four ? 2 : 1;
        int turn = move == 2 || move == 4 ? next : 8 - next;
        place = new Place(place.x(), place.y(), (place.heading() + turn) % 8);
        places.add(place);
        for (int k = 0; k < radius; k++) {
            place = step(place, sense);
            places.add(place);
        }
        return places;
    }

    private Place landing(Place from, int move) {
        List<Place> places = placesOn(from, move);
        return places.get(places.size() - 1);
    }

    private boolean mayBeMade(Place from, int move) {
        for (Place place : placesOn(from, move)) {
            if (!isFree(place)) {
                return false;
            }
        }
        return true;
    }

    private static int compareRoads(Road a, Road b) {
        int worth = BY_WORTH.compare(a, b);
        for (int i = 0; worth == 0 && i < a.moves().size(); i++) {
            worth = Integer.compare(a.moves().get(i), b.moves().get(i));
        }
        return worth;
    }

    private void search() {
        way = null;
        fillFree();
        List<Place> places = allPlaces();
        Road[][][] best = new Road[width][height][8];
        if (isFree(goal)) {
            best[goal.x()][goal.y()][goal.heading()] = new Road(goal, 0, 0, 0, List.of());
        }
        boolean better = true;
        while (better) {
            better = false;
            for (Place place : places) {
                better |= improve(best, place);
            }
        }
        take(places, best);
    }

    private boolean improve(Road[][][] best, Place place) {
        boolean better = false;
        for (int move = 0; move < 6; move++) {
            if (!isFree(place) || !mayBeMade(place, move)) {
                continue;
            }
            Place to = landing(place, move);
            Road rest = best[to.x()][to.y()][to.heading()];
            Road known = best[place.x()][place.y()][place.heading()];
            if (rest == null || (known != null && rest.count() + 1 > known.count())) {
                continue;
            }
            List<Integer> moves = new ArrayList<>();
            moves.add(move);
            moves.addAll(rest.moves());
            boolean arc = move >= 2;
            Road road = new Road(place, rest.count() + 1, rest.length() + (arc ? 2 * radius : 1),
                    rest.arcs() + (arc ? 1 : 0), moves);
            if (known == null || compareRoads(road, known) < 0) {
                best[place.x()][place.y()][place.heading()] = road;
                better = true;
            }
        }
        return better;
    }

    private void take(List<Place> places, Road[][][] best) {
        List<Road> taken = new ArrayList<>();
        for (Place place : places) {
            Road road = best[place.x()][place.y()][place.heading()];
            if (road != null) {
                taken.add(road);
            }
        }
        Collections.sort(taken, BY_WORTH.thenComparingInt((Road r) -> r.from().y())
                .thenComparingInt((Road r) -> r.from().x()).thenComparingInt((Road r) -> r.from().heading()));
        for (int i = 0; i < taken.size() && i < steps; i++) {
            if (taken.get(i).from().equals(at)) {
                exact = true;
                lay(taken.get(i));
                return;
            }
        }
        exact = taken.size() <= steps;
    }

    private void lay(Road road) {
        way = road.moves();
        behind = new ArrayList<>();
        made = 0;
        Place place = at;
        for (int move : way) {
            place = landing(place, move);
            behind.add(place);
        }
    }
}
