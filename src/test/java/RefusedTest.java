import java.util.ArrayList;
import java.util.List;
import java.util.function.Consumer;
import java.util.function.ToIntFunction;

/**
 * 'Refused, and nothing changes, the first of these: BAD, STATE, FULL': of two objects with the same
 * calls one gets the refused call too, and all that can be seen of them stays alike.
 */
public final class RefusedTest {
    private static final int BAD = -1, STATE = -2, FULL = -3;
    private static final int[] WILD = {Integer.MIN_VALUE, Integer.MIN_VALUE + 1, -1000, -256, -33, -32, -17, -11, -9, -2, -1,
        1000, 65536, 1 << 30, Integer.MAX_VALUE - 1, Integer.MAX_VALUE};

    private final Check check = new Check();
    private final List<String> names = new ArrayList<>();
    private final List<ToIntFunction<WindowDesk>> calls = new ArrayList<>();
    private final List<Integer> answers = new ArrayList<>();

    private void refused(String name, int answer, ToIntFunction<WindowDesk> call) {
        names.add(name);
        calls.add(call);
        answers.add(answer);
    }

    /** Each call that is refused is made on an object of its own, then many of them on one. */
    private void state(String name, Consumer<WindowDesk> build) {
        int[] want = Probe.all(built(build));
        for (int k = 0; k < calls.size(); k++) {
            WindowDesk x = built(build);
            check.due(name + ": " + names.get(k), calls.get(k).applyAsInt(x), answers.get(k));
            alike(name + ": behind " + names.get(k), Probe.all(x), want);
        }
        // No more of them than leave the object within its 512 calls.
        WindowDesk x = built(build);
        for (int k = 0; k < calls.size(); k += calls.size() / 25 + 1) {
            calls.get(k).applyAsInt(x);
        }
        alike(name + ": behind many of them", Probe.all(x), want);
        names.clear();
        calls.clear();
        answers.clear();
    }

    private static WindowDesk built(Consumer<WindowDesk> build) {
        WindowDesk x = new WindowDesk();
        build.accept(x);
        return x;
    }

    private void alike(String what, int[] got, int[] want) {
        check.due(what + ": as many answers", got.length, want.length);
        for (int k = 0; k < want.length && k < got.length; k++) {
            check.due(what + ": answer " + k, got[k], want[k]);
        }
    }

    // ---- calls that are BAD whatever the state is

    /** Numbers below and above from .. to. */
    private static int[] beyond(int from, int to) {
        List<Integer> row = new ArrayList<>();
        row.add(from - 1);
        row.add(to + 1);
        for (int wild : WILD) {
            if (wild < from || wild > to) {
                row.add(wild);
            }
        }
        return row.stream().mapToInt(Integer::intValue).toArray();
    }

    private void badNumbers(int tasks) {
        for (int n : beyond(0, 255)) {
            refused("type(" + n + ")", BAD, x -> x.type(n));
        }
        for (int n : beyond(0, tasks - 1)) {
            refused("task(" + n + ", 0)", BAD, x -> x.task(n, 0));
            refused("task(" + n + ", 5)", BAD, x -> x.task(n, 5));
            refused("why(" + n + ", 0, 0)", BAD, x -> x.why(n, 0, 0));
            refused("puts(" + n + ", 0, 8)", BAD, x -> x.puts(n, 0, 8));
        }
        for (int n : beyond(0, 5)) {
            refused("task(0, " + n + ")", BAD, x -> x.task(0, n));
        }
        for (int n : beyond(0, 1)) {
            refused("why(0, " + n + ", 0)", BAD, x -> x.why(0, n, 0));
            refused("why(0, 0, " + n + ")", BAD, x -> x.why(0, 0, n));
            refused("puts(0, " + n + ", 8)", BAD, x -> x.puts(0, n, 8));
            refused("odds(5, " + n + ")", BAD, x -> x.odds(5, n));
            refused("keep(" + n + ")", BAD, x -> x.keep(n));
            refused("back(" + n + ")", BAD, x -> x.back(n));
            refused("grey(1, 2, " + n + ")", BAD, x -> x.grey(1, 2, n));
        }
        for (int n : beyond(0, 16)) {
            refused("puts(0, 0, " + n + ")", BAD, x -> x.puts(0, 0, n));
            refused("puts(0, 1, " + n + ")", BAD, x -> x.puts(0, 1, n));
        }
        for (int n : beyond(0, 15)) {
            refused("must(" + n + ")", BAD, x -> x.must(n));
        }
        for (int n : beyond(0, 4)) {
            refused("tightens(" + n + ")", BAD, x -> x.tightens(n));
        }
        for (int n : beyond(0, 10)) {
            refused("odds(" + n + ", 0)", BAD, x -> x.odds(n, 0));
        }
        for (int n : beyond(0, 8)) {
            refused("count(" + n + ")", BAD, x -> x.count(n));
        }
        badSets((1 << tasks) - 1);
    }

    private void badSets(int all) {
        refused("wrap(0)", BAD, x -> x.wrap(0));
        refused("grey(0, 0, 0)", BAD, x -> x.grey(0, 0, 0));
        refused("grey(1, 0, 0)", BAD, x -> x.grey(1, 0, 0));
        refused("grey(1, 1, 0)", BAD, x -> x.grey(1, 1, 0));
        refused("grey(1, 3, 0)", BAD, x -> x.grey(1, 3, 0));
        refused("grey(2, 3, 1)", BAD, x -> x.grey(2, 3, 1));
        for (int n : beyond(0, all)) {
            refused("wrap(" + n + ")", BAD, x -> x.wrap(n));
            refused("grey(" + n + ", 1, 0)", BAD, x -> x.grey(n, 1, 0));
            refused("grey(0, " + n + ", 0)", BAD, x -> x.grey(0, n, 0));
            refused("grey(1, " + n + ", 1)", BAD, x -> x.grey(1, n, 1));
        }
    }

    // ---- states

    private void fresh() {
        badNumbers(0);
        refused("undo()", STATE, WindowDesk::undo);
        refused("back(0)", STATE, x -> x.back(0));
        refused("back(1)", STATE, x -> x.back(1));
        state("a new object", x -> { });
    }

    private static void busy(WindowDesk x) {
        Check.typeAll(x, "c4;t2 14 3 2;t1 12 4 3;t0 16 2 4;");
        x.desk();
        x.puts(0, 0, 3);
        x.keep(0);
        x.tightens(4);
        x.puts(1, 1, 11);
        Check.typeAll(x, "c2;t0 9 ");
    }

    private void used() {
        badNumbers(3);
        refused("back(1)", STATE, x -> x.back(1));
        for (int v = 0; v <= 3; v++) {
            int at = v;
            refused("puts(0, 0, " + v + ")", STATE, x -> x.puts(0, 0, at));
        }
        for (int v = 12; v <= 16; v++) {
            int at = v;
            refused("puts(0, 0, " + v + ")", STATE, x -> x.puts(0, 0, at));
        }
        for (int v = 0; v <= 5; v++) {
            int at = v;
            refused("puts(0, 1, " + v + ")", STATE, x -> x.puts(0, 1, at));
        }
        for (int v = 14; v <= 16; v++) {
            int at = v;
            refused("puts(0, 1, " + v + ")", STATE, x -> x.puts(0, 1, at));
        }
        refused("desk()", -18, WindowDesk::desk);
        state("tasks, an image, things done, half a text", RefusedTest::busy);
    }

    /** BAD and STATE both: BAD is told. */
    private void broken() {
        badNumbers(3);
        for (int rule = 0; rule <= 4; rule++) {
            int by = rule;
            refused("tightens(" + rule + ")", STATE, x -> x.tightens(by));
        }
        for (int v = 0; v <= 16; v++) {
            int at = v;
            refused("puts(0, 0, " + v + ")", STATE, x -> x.puts(0, 0, at));
            refused("puts(2, 1, " + v + ")", STATE, x -> x.puts(2, 1, at));
        }
        refused("back(0)", STATE, x -> x.back(0));
        refused("desk()", -12, WindowDesk::desk);
        state("broken", x -> {
            Check.typeAll(x, "c1;t0 3 2 1;t0 3 2 1;t0 16 2 1;");
            x.desk();
            x.keep(1);
            x.puts(2, 1, 12);
            x.tightens(0);
            x.type('c');
            x.type('9');
        });
    }

    /** BAD and FULL both: BAD is told. */
    private void full() {
        badNumbers(5);
        for (int letter : new int[] {0, 32, 59, 99, 255}) {
            refused("type(" + letter + ")", FULL, x -> x.type(letter));
        }
        refused("undo()", STATE, WindowDesk::undo);
        refused("desk()", -10 - 99, WindowDesk::desk);
        state("a full text, five tasks, both images", x -> {
            Check.typeAll(x, "c9;t0 9 1 1;t1 9 2 2;t2 9 3 3;t3 9 4 4;t4 16 5 5;");
            x.desk();
            x.keep(0);
            x.puts(4, 0, 6);
            x.keep(1);
            x.undo();
            Check.typeAll(x, " ".repeat(99) + "x");
        });
    }

    /** Ten are known: what is refused takes no place among them. */
    private void tenKnown() {
        badNumbers(1);
        refused("puts(0, 0, 12)", STATE, x -> x.puts(0, 0, 12));
        refused("puts(0, 1, 16)", STATE, x -> x.puts(0, 1, 16));
        refused("back(0)", STATE, x -> x.back(0));
        state("twelve things done", x -> {
            Check.typeAll(x, "t0 16 1 1;");
            x.desk();
            for (int v = 1; v <= 12; v++) {
                x.puts(0, 0, v);
            }
        });
    }

    /** A text with a fault wherever it may be changes nothing: tasks, room, done things, images, the text. */
    private void faults() {
        String good = "c7;t1 9 2 6;t2 9 3 7;";
        for (int place = 0; place < good.length(); place++) {
            String text = good.substring(0, place) + "x" + good.substring(place);
            Consumer<WindowDesk> build = x -> {
                Check.typeAll(x, "c4;t2 14 3 2;t1 12 4 3;t0 16 2 4;");
                x.desk();
                x.puts(0, 0, 3);
                x.keep(0);
                x.tightens(4);
                Check.typeAll(x, text);
            };
            refused("desk() of " + text, -10 - place, WindowDesk::desk);
            state("a fault at " + place, build);
        }
    }

    public static void main(String[] args) {
        RefusedTest test = new RefusedTest();
        test.fresh();
        test.used();
        test.broken();
        test.full();
        test.tenKnown();
        test.faults();
        test.check.end();
    }
}
