import java.util.List;
import java.util.function.Function;
import java.util.function.Supplier;
import java.util.function.ToIntFunction;

/**
 * Refused calls, and calls that only ask, change nothing: of two objects with the same calls behind them one gets
 * such a call more, and what can be asked of both is the same afterwards.
 */
public final class RefusalsTest {
    private static final int WIDTH = 8;
    private static final int HEIGHT = 6;
    private static final int THROWN = 12345;

    /** A call, with the answer that is due. */
    private record Call(String told, ToIntFunction<ParkWays> made, int due) { }

    private final Check check = new Check();

    public static void main(String[] args) {
        RefusalsTest test = new RefusalsTest();
        test.inEachState();
        test.withoutWay();
        test.withWay();
        test.letGo();
        test.goalAtHome();
        test.check.end("RefusalsTest");
    }

    private static final List<Call> ALWAYS = List.of(
            new Call("cell(8, 0, true)", x -> thrown(() -> x.cell(8, 0, true)), THROWN),
            new Call("cell(0, -1, true)", x -> thrown(() -> x.cell(0, -1, true)), THROWN),
            new Call("car(0, 1, 1)", x -> x.car(0, 1, 1), 0),
            new Call("car(7, 6, 4)", x -> x.car(7, 6, 4), 0),
            new Call("car(7, 5, 5)", x -> x.car(7, 5, 5), 0),
            new Call("keep(-1)", x -> x.keep(-1), -2),
            new Call("keep(4)", x -> x.keep(4), -2),
            new Call("stand(8, 0, 0)", x -> x.stand(8, 0, 0), -2),
            new Call("stand(0, 6, 0)", x -> x.stand(0, 6, 0), -2),
            new Call("stand(3, 3, 8)", x -> x.stand(3, 3, 8), -2),
            new Call("stand(5, 0, 0) on a full cell", x -> x.stand(5, 0, 0), -3),
            new Call("space(0, 0)", x -> x.space(0, 0), -2),
            new Call("space(1, 9)", x -> x.space(1, 9), -2),
            new Call("space(0, 7) in a row with a full cell", x -> x.space(0, 7), 0),
            new Call("way(-1)", x -> x.way(-1), -2),
            new Call("way(lowest)", x -> x.way(Long.MIN_VALUE), -2),
            new Call("move(-1, 0)", x -> x.move(-1, 0), -1),
            new Call("move(400, 4)", x -> x.move(400, 4), -1),
            new Call("follow(0, 0.5)", x -> x.follow(0, 0.5), -2),
            new Call("follow(1001, 0.5)", x -> x.follow(1001, 0.5), -2),
            new Call("follow(1, 1.5)", x -> x.follow(1, 1.5), -2),
            new Call("follow(1, no number)", x -> x.follow(1, Double.NaN), -2),
            new Call("change(0, 6, true)", x -> thrown(() -> x.change(0, 6, true)), THROWN),
            new Call("change(-1, 0, true)", x -> thrown(() -> x.change(-1, 0, true)), THROWN),
            new Call("margin(-1)", x -> x.margin(-1), -1),
            new Call("margin(400)", x -> x.margin(400), -1),
            new Call("heading(8)", x -> thrown(() -> x.heading(8)), THROWN),
            new Call("heading(-1)", x -> thrown(() -> x.heading(-1)), THROWN),
            new Call("heading(3)", x -> x.heading(3), 2));

    private static int thrown(Supplier<Integer> call) {
        try {
            return call.get();
        } catch (ArrayIndexOutOfBoundsException thrown) {
            return Check.isThrownByHand(thrown) ? THROWN : -THROWN;
        }
    }

    /** A row y = 0 with (5, 0) full, that never changes, so that there is a cell to be refused. */
    private static ParkWays field(int headings) {
        ParkWays x = new ParkWays(WIDTH, HEIGHT, headings);
        x.cell(5, 0, true);
        return x;
    }

    private static ParkWays atFirst() {
        return field(8);
    }

    /** Two of the moves of a way were made, with slips and with a car that is not the one at first. */
    private static ParkWays underWay() {
        ParkWays x = field(4);
        x.car(2, 1, 1);
        x.cell(7, 5, true);
        x.keep(1);
        Scene.fromTo(x, Scene.place(0, 1, 0), Scene.place(4, 4, 2));
        x.way(150);
        x.follow(1, 0.25);
        return x;
    }

    /** Its steps are just enough for the way that showSteps() needs first, and not for the one that it needs then. */
    private static ParkWays ahead() {
        ParkWays x = field(4);
        Scene.fromTo(x, Scene.place(2, 2, 0), Scene.place(6, 2, 0));
        x.way(124);
        x.follow(1, 0.25);
        return x;
    }

    private static ParkWays spent() {
        ParkWays x = field(8);
        Scene.fromTo(x, Scene.place(0, 0, 0), Scene.place(4, 5, 2));
        x.way(10);
        return x;
    }

    private static ParkWays arrived() {
        ParkWays x = field(8);
        Scene.fromTo(x, Scene.place(0, 1, 0), Scene.place(4, 1, 0));
        x.way(300);
        x.follow(4, -0.125);
        return x;
    }

    private static ParkWays letGoOf() {
        ParkWays x = underWay();
        x.release(false);
        return x;
    }

    private static ParkWays backHome() {
        ParkWays x = field(8);
        Scene.fromTo(x, Scene.place(1, 2, 0), Scene.place(1, 2, 0));
        x.space(1, 3);
        x.way(1000);
        x.follow(2, 0.5);
        x.out();
        x.way(500);
        x.follow(1, 0.25);
        return x;
    }

    private void inEachState() {
        check.begin("refusals change nothing");
        for (Call call : ALWAYS) {
            dueNoChange("at first", RefusalsTest::atFirst, call);
            dueNoChange("under way", RefusalsTest::underWay, call);
            dueNoChange("ahead", RefusalsTest::ahead, call);
            dueNoChange("spent", RefusalsTest::spent, call);
            dueNoChange("arrived", RefusalsTest::arrived, call);
            dueNoChange("let go", RefusalsTest::letGoOf, call);
            dueNoChange("back home", RefusalsTest::backHome, call);
        }
    }

    private void withoutWay() {
        check.begin("without a way nothing changes");
        List<Call> calls = List.of(
                new Call("follow(1, 0.5)", x -> x.follow(1, 0.5), 0),
                new Call("follow(1000, -1.0)", x -> x.follow(1000, -1.0), 0),
                new Call("move(0, 0)", x -> x.move(0, 0), -1),
                new Call("move(0, 9)", x -> x.move(0, 9), -1),
                new Call("margin(0)", x -> x.margin(0), -1),
                new Call("change(2, 2, false)", x -> x.change(2, 2, false), 0),
                new Call("release(true)", x -> x.release(true), 0),
                new Call("exact()", x -> x.exact() ? 1 : 0, 0));
        for (Call call : calls) {
            dueNoChange("at first", RefusalsTest::atFirst, call);
            dueNoChange("spent", RefusalsTest::spent, call);
        }
    }

    private void withWay() {
        check.begin("with a way nothing changes");
        List<Call> calls = List.of(
                new Call("move(0, 4)", x -> x.move(0, 4), -2),
                new Call("move(0, -1)", x -> x.move(0, -1), -2),
                new Call("change(5, 0, true), as it is", x -> x.change(5, 0, true), 0),
                new Call("change(7, 0, false), as it is", x -> x.change(7, 0, false), 0),
                new Call("release(true)", x -> x.release(true), 0),
                new Call("exact()", x -> x.exact() ? 1 : 0, 1));
        for (Call call : calls) {
            dueNoChange("under way", RefusalsTest::underWay, call);
            dueNoChange("ahead", RefusalsTest::ahead, call);
            dueNoChange("arrived", RefusalsTest::arrived, call);
            dueNoChange("back home", RefusalsTest::backHome, call);
        }
        dueNoChange("arrived", RefusalsTest::arrived, new Call("follow(5, 1.0)", x -> x.follow(5, 1.0), 1));
    }

    private void letGo() {
        check.begin("when nobody holds on nothing changes");
        dueNoChange("let go", RefusalsTest::letGoOf, new Call("follow(1, 0.5)", x -> x.follow(1, 0.5), 2));
        dueNoChange("let go", RefusalsTest::letGoOf, new Call("follow(1000, 1.0)", x -> x.follow(1000, 1.0), 2));
        dueNoChange("let go", RefusalsTest::letGoOf, new Call("release(false)", x -> x.release(false), 0));
    }

    private void goalAtHome() {
        check.begin("the goal is home already: nothing changes");
        Call call = new Call("out()", x -> x.out(), 0);
        dueNoChange("at first", RefusalsTest::atFirst, call);
        dueNoChange("back home", RefusalsTest::backHome, call);
    }

    private void dueNoChange(String state, Supplier<ParkWays> made, Call call) {
        List<Function<ParkWays, String>> shows = List.of(RefusalsTest::showWay, RefusalsTest::showSteps,
                RefusalsTest::showField, RefusalsTest::showCar, RefusalsTest::showGoal);
        for (Function<ParkWays, String> show : shows) {
            ParkWays with = made.get();
            check.due(state + ": " + call.told(), call.made().applyAsInt(with), call.due());
            String due = show.apply(made.get());
            String got = show.apply(with);
            if (!got.equals(due)) {
                check.tell(state + ": " + call.told() + " changed " + due + " to " + got);
            }
        }
    }

    private static void showMoves(ParkWays x, StringBuilder text) {
        for (int i = 0; x.move(i, 0) >= 0 && i < 40; i++) {
            for (int what = 0; what < 4; what++) {
                text.append(x.move(i, what)).append(' ');
            }
            text.append(x.margin(i)).append("; ");
        }
        text.append(x.exact()).append(' ').append(x.error()).append(' ');
    }

    /** The way, how much of it is left, whether somebody holds on, and where the car is. */
    private static String showWay(ParkWays x) {
        StringBuilder text = new StringBuilder();
        showMoves(x, text);
        text.append(x.follow(1, 0.0)).append(x.release(true)).append(' ');
        text.append(x.follow(1000, 0.0625)).append(' ').append(x.error()).append(' ');
        text.append(x.way(Scene.ALL)).append(' ');
        showMoves(x, text);
        return text.toString();
    }

    /** With how many steps it is searched anew, and from where. */
    private static String showSteps(ParkWays x) {
        StringBuilder text = new StringBuilder();
        int[][] cells = {{4, 2}, {3, 3}, {1, 1}, {3, 5}, {4, 1}};
        for (int[] cell : cells) {
            text.append("| ").append(x.change(cell[0], cell[1], true)).append(": ");
            showMoves(x, text);
        }
        return text.toString();
    }

    private static String showField(ParkWays x) {
        StringBuilder text = new StringBuilder();
        text.append(x.keep(0)).append(' ');
        for (int i = 0; i < WIDTH * HEIGHT; i++) {
            text.append(x.cell(i % WIDTH, i / WIDTH, true));
        }
        return text.toString();
    }

    private static String showCar(ParkWays x) {
        StringBuilder text = new StringBuilder();
        for (int i = 0; i < WIDTH * HEIGHT; i++) {
            text.append(x.stand(i % WIDTH, i / WIDTH, 0)).append(x.stand(i % WIDTH, i / WIDTH, 1));
        }
        x.keep(0);
        text.append(x.stand(2, 3, 0)).append(x.space(1, 3)).append(x.way(Scene.ALL)).append(' ');
        showMoves(x, text);
        return text.toString();
    }

    /** The goal, then home, by the way to each from where the car is. */
    private static String showGoal(ParkWays x) {
        StringBuilder text = new StringBuilder();
        text.append(x.way(Scene.ALL)).append(' ');
        showMoves(x, text);
        text.append(x.out()).append(' ').append(x.way(Scene.ALL)).append(' ');
        showMoves(x, text);
        return text.toString();
    }
}
