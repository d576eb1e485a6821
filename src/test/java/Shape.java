import java.util.ArrayList;
import java.util.List;

/** Which cells a car covers, and which a MOVE needs, by tables written out from the document. */
final class Shape {
    static final int[][] STEPS = {{1, 0}, {1, 1}, {0, 1}, {-1, 1}, {-1, 0}, {-1, -1}, {0, -1}, {1, -1}};
    static final int[] TWO_FURTHER = {2, 3, 4, 5, 6, 7, 0, 1};
    static final int[] NEXT_OF_EIGHT = {1, 2, 3, 4, 5, 6, 7, 0};
    static final int[] BEFORE_OF_EIGHT = {7, 0, 1, 2, 3, 4, 5, 6};
    static final int[] NEXT_OF_FOUR = {2, -1, 4, -1, 6, -1, 0, -1};
    static final int[] BEFORE_OF_FOUR = {6, -1, 0, -1, 2, -1, 4, -1};
    /** For a length or width of 1 to 7: the first and the last of its cells. */
    private static final int[][] SPANS = {{0, 0}, {0, 1}, {-1, 1}, {-1, 2}, {-2, 2}, {-2, 3}, {-3, 3}};

    final int length;
    final int wide;

    Shape(int length, int wide) {
        this.length = length;
        this.wide = wide;
    }

    List<int[]> covered(int[] place) {
        int[] s = STEPS[place[2]];
        int[] t = STEPS[TWO_FURTHER[place[2]]];
        List<int[]> cells = new ArrayList<>();
        for (int i = SPANS[length - 1][0]; i <= SPANS[length - 1][1]; i++) {
            for (int j = SPANS[wide - 1][0]; j <= SPANS[wide - 1][1]; j++) {
                cells.add(new int[] {place[0] + i * s[0] + j * t[0], place[1] + i * s[1] + j * t[1]});
            }
        }
        return cells;
    }

    /** The greater distance, in x or y, from the cell to the nearest one that is covered. */
    int distance(int[] place, int x, int y) {
        int least = Integer.MAX_VALUE;
        for (int[] cell : covered(place)) {
            least = Math.min(least, Math.max(Math.abs(cell[0] - x), Math.abs(cell[1] - y)));
        }
        return least;
    }

    boolean fits(int[] place, int width, int height) {
        boolean inside = true;
        for (int[] cell : covered(place)) {
            inside = inside && cell[0] >= 0 && cell[0] < width && cell[1] >= 0 && cell[1] < height;
        }
        return inside;
    }

    static int turned(int heading, int move, boolean four) {
        boolean next = move == 2 || move == 4;
        if (four) {
            return next ? NEXT_OF_FOUR[heading] : BEFORE_OF_FOUR[heading];
        }
        return next ? NEXT_OF_EIGHT[heading] : BEFORE_OF_EIGHT[heading];
    }

    /** All PLACES on a MOVE, the first one, too, and that of the turn with either HEADING; the last one last. */
    static List<int[]> placesOn(int[] from, int move, int radius, boolean four) {
        List<int[]> places = new ArrayList<>();
        places.add(from);
        if (move < 2) {
            places.add(stepped(from, move == 0 ? 1 : -1));
            return places;
        }
        int sense = move < 4 ? 1 : -1;
        int[] at = from;
        for (int k = 0; k < radius; k++) {
            at = stepped(at, sense);
            places.add(at);
        }
        at = new int[] {at[0], at[1], turned(from[2], move, four)};
        places.add(at);
        for (int k = 0; k < radius; k++) {
            at = stepped(at, sense);
            places.add(at);
        }
        return places;
    }

    private static int[] stepped(int[] place, int by) {
        int[] s = STEPS[place[2]];
        return new int[] {place[0] + by * s[0], place[1] + by * s[1], place[2]};
    }

    /** For a field of that size: which cells must not be FULL, for the MOVE to be made. */
    boolean[][] needed(List<int[]> placesOn, int width, int height) {
        boolean[][] needed = new boolean[width][height];
        for (int[] place : placesOn) {
            for (int[] cell : covered(place)) {
                needed[cell[0]][cell[1]] = true;
            }
        }
        return needed;
    }
}
