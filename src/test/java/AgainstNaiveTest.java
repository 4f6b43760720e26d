import java.util.Random;

/** Random runs of calls, the same each time: every answer of the class is the naive one's. */
public final class AgainstNaiveTest {
    private final Check check;
    private final Random random;
    private final WindowDesk x = new WindowDesk();
    private final Naive y = new Naive();
    private final String run;

    private AgainstNaiveTest(Check check, long seed) {
        this.check = check;
        this.random = new Random(seed);
        this.run = "run " + seed + ": ";
    }

    private void due(String call, int got, int want) {
        check.due(run + call, got, want);
    }

    private void tell(String text) {
        due("clear()", x.clear(), y.clear());
        for (int k = 0; k < text.length(); k++) {
            due("type", x.type(text.charAt(k)), y.type(text.charAt(k)));
        }
        due("desk() of \"" + text + "\"", x.desk(), y.desk());
    }

    private int upTo(int most) {
        return random.nextInt(most + 1);
    }

    private String blanks(int least) {
        return " ".repeat(least + (upTo(9) == 0 ? 1 : 0));
    }

    /** Windows are short and needs high often enough that rules have work. */
    private String randomText() {
        StringBuilder text = new StringBuilder();
        int room = 3;
        if (upTo(5) > 0) {
            room = 1 + upTo(upTo(3) == 0 ? 19 : 5);
            text.append(blanks(0)).append('c').append(blanks(0)).append(room).append(';');
        }
        int many = upTo(3) == 0 ? upTo(5) : 3 + upTo(2);
        int widest = 4 + upTo(12);
        for (int i = 0; i < many; i++) {
            int early = upTo(Math.min(15, 16 - Math.min(widest, 16) + upTo(3)));
            int late = Math.min(16, early + 1 + upTo(widest));
            int lasting = 1 + upTo(Math.min(9, late - early) - 1);
            int need = 1 + upTo(Math.min(9, room) - 1);
            text.append(blanks(0)).append('t').append(blanks(0)).append(early).append(blanks(1)).append(late);
            text.append(blanks(1)).append(lasting).append(blanks(1)).append(need).append(blanks(0)).append(';');
        }
        return text.toString();
    }

    private String spoiled(String text) {
        StringBuilder out = new StringBuilder(text);
        String letters = "0123456789ct; 99x00\t";
        for (int k = 1 + upTo(2); k > 0 && out.length() > 0; k--) {
            int at = upTo(out.length() - 1);
            char letter = letters.charAt(upTo(letters.length() - 1));
            switch (upTo(3)) {
                case 0:
                    out.deleteCharAt(at);
                    break;
                case 1:
                    out.insert(at, letter);
                    break;
                case 2:
                    out.setCharAt(at, letter);
                    break;
                default:
                    out.setLength(at);
                    break;
            }
        }
        return out.toString();
    }

    private void lookAtWindows() {
        for (int i = 0; i < 6; i++) {
            for (int what = 0; what < 4; what++) {
                due("task(" + i + ", " + what + ")", x.task(i, what), y.task(i, what));
            }
            for (int side = 0; side < 2; side++) {
                due("why(" + i + ", " + side + ", 0)", x.why(i, side, 0), y.why(i, side, 0));
                due("why(" + i + ", " + side + ", 1)", x.why(i, side, 1), y.why(i, side, 1));
            }
        }
        for (int time = 0; time < 16; time++) {
            due("must(" + time + ")", x.must(time), y.must(time));
        }
        for (int what : new int[] {0, 1, 2, 5, 6, 7, 8}) {
            due("count(" + what + ")", x.count(what), y.count(what));
        }
    }

    private void lookAtSchedules() {
        for (int i = 0; i < x.count(0); i++) {
            due("task(" + i + ", 4)", x.task(i, 4), y.task(i, 4));
            due("task(" + i + ", 5)", x.task(i, 5), y.task(i, 5));
        }
        due("count(3)", x.count(3), y.count(3));
        due("count(4)", x.count(4), y.count(4));
        int by = upTo(10);
        due("odds(" + by + ", 0)", x.odds(by, 0), y.odds(by, 0));
        due("odds(" + by + ", 1)", x.odds(by, 1), y.odds(by, 1));
    }

    private void lookAtSets() {
        for (int set = 0; set < 33; set++) {
            due("wrap(" + set + ")", x.wrap(set), y.wrap(set));
            int other = upTo(3) == 0 ? upTo(33) : 31 & ~set & upTo(31);
            due("grey(" + set + ", " + other + ", 0)", x.grey(set, other, 0), y.grey(set, other, 0));
            due("grey(" + set + ", " + other + ", 1)", x.grey(set, other, 1), y.grey(set, other, 1));
        }
    }

    private void act() {
        int a = upTo(7) - 1;
        int b = upTo(3) == 0 ? upTo(3) - 1 : upTo(1);
        int v = upTo(18) - 1;
        switch (upTo(9)) {
            case 0:
            case 1:
            case 2:
                due("tightens(" + a + ")", x.tightens(a), y.tightens(a));
                break;
            case 3:
            case 4:
            case 5:
                due("puts(" + a + ", " + b + ", " + v + ")", x.puts(a, b, v), y.puts(a, b, v));
                break;
            case 6:
            case 7:
                due("undo()", x.undo(), y.undo());
                break;
            case 8:
                due("keep(" + b + ")", x.keep(b), y.keep(b));
                break;
            default:
                due("back(" + b + ")", x.back(b), y.back(b));
                break;
        }
    }

    private void go(int texts, int acts, boolean schedules) {
        lookAtWindows();
        for (int k = 0; k < texts; k++) {
            tell(upTo(2) == 0 ? spoiled(randomText()) : randomText());
            lookAtWindows();
            lookAtSets();
            for (int n = 0; n < acts; n++) {
                act();
                lookAtWindows();
                if (schedules && n % 10 == 0) {
                    lookAtSchedules();
                }
            }
        }
    }

    /** Rules one after another from windows as told, where most differences between rules show. */
    private void goByRules(boolean schedules) {
        for (int rule = 0; rule < 5; rule++) {
            for (int k = 0; k < 12; k++) {
                tell(randomText());
                if (schedules) {
                    lookAtSchedules();
                }
                due("tightens(" + rule + ")", x.tightens(rule), y.tightens(rule));
                lookAtWindows();
                for (int n = 0; n < 4; n++) {
                    due("tightens(" + n + ")", x.tightens(n), y.tightens(n));
                    lookAtWindows();
                }
            }
        }
    }

    public static void main(String[] args) {
        Check check = new Check();
        for (long seed = 1; seed <= 150; seed++) {
            new AgainstNaiveTest(check, seed).go(4, 60, seed % 5 == 0);
            new AgainstNaiveTest(check, 1000 + seed).goByRules(seed % 10 == 0);
        }
        check.end();
    }
}
