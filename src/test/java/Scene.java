/** What several tests set up: a field with THE CAR at one PLACE and the GOAL at another. */
final class Scene {
    /** More steps than there are PLACES. */
    static final long ALL = 1000000L;

    private Scene() { }

    static int[] place(int x, int y, int heading) {
        return new int[] {x, y, heading};
    }

    static ParkWays fromTo(ParkWays x, int[] from, int[] to) {
        standAt(x, to);
        x.out();
        standAt(x, from);
        return x;
    }

    /** A row of 8 cells, with the way from x = 0 to x = 6: six steps on. */
    static ParkWays row() {
        ParkWays x = fromTo(new ParkWays(8, 1, 8), place(0, 0, 0), place(6, 0, 0));
        x.way(ALL);
        return x;
    }

    private static void standAt(ParkWays x, int[] place) {
        if (x.stand(place[0], place[1], place[2]) != 1) {
            throw new IllegalStateException("the test's own place is refused");
        }
    }
}
