/** Counts the answers that are not as due, and says which. */
final class Check {
    private int wrong;
    private int asked;
    private String part = "";

    void begin(String part) {
        this.part = part;
    }

    void due(String call, long got, long want) {
        asked++;
        if (got != want) {
            tell(call + " answered " + got + ", due is " + want);
        }
    }

    void due(String call, boolean got, boolean want) {
        due(call, got ? 1 : 0, want ? 1 : 0);
    }

    void dueDouble(String call, double got, double want) {
        asked++;
        if (got != want) {
            tell(call + " answered " + got + ", due is " + want);
        }
    }

    void dueText(String call, String got, String want) {
        asked++;
        if (!got.equals(want)) {
            tell(call + " answered " + got + ", due is " + want);
        }
    }

    /** A search with steps enough finds these MOVES, and no others behind them. */
    void dueWay(ParkWays x, int... moves) {
        due("way(ALL)", x.way(Scene.ALL), moves.length);
        for (int i = 0; i < moves.length; i++) {
            due("move(" + i + ", 0)", x.move(i, 0), moves[i]);
        }
        due("move(behind the last, 0)", x.move(moves.length, 0), -1);
    }

    /** A call that throws as the document says: out of the program's own hand, not the machine's. */
    void dueThrow(String call, Runnable calling) {
        asked++;
        try {
            calling.run();
            tell(call + " threw nothing");
        } catch (ArrayIndexOutOfBoundsException thrown) {
            if (!isThrownByHand(thrown)) {
                tell(call + " let the machine throw: " + thrown);
            }
        }
    }

    static boolean isThrownByHand(ArrayIndexOutOfBoundsException thrown) {
        String text = thrown.getMessage();
        return text == null || !text.startsWith("Index ");
    }

    void tell(String fault) {
        wrong++;
        System.out.println(part + ": " + fault);
    }

    int wrong() {
        return wrong;
    }

    void end(String test) {
        System.out.println(test + ": " + asked + " answers asked, " + wrong + " wrong");
        if (wrong != 0) {
            System.exit(1);
        }
    }
}
