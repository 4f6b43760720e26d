import java.util.Random;

/**
 * What follows from the document for all tasks alike, on random texts (always the same ones), without a
 * second writing of its rules beside it: that no rule loses a schedule, that time may be turned round, that
 * what is told of schedules, spans, sets and odds agrees with itself.
 */
public final class FollowsTest {
    private static final int NONE = -9;
    private static final int END = 16;

    private final Check check = new Check();
    private final Random random = new Random(20261118);
    private int room;
    private int[][] tasks = {};
    private String told = "";

    private void due(String call, int got, int want) {
        check.due(told + " " + call, got, want);
    }

    private void holds(String what, boolean is) {
        check.due(told + " " + what, is ? 1 : 0, 1);
    }

    private int from(int least, int most) {
        return least + random.nextInt(most - least + 1);
    }

    /** One to five tasks; windows short enough that they are in each other's way. */
    private void make() {
        room = from(1, random.nextInt(3) == 0 ? 20 : 5);
        int widest = from(3, END);
        tasks = new int[from(1, 5)][];
        for (int i = 0; i < tasks.length; i++) {
            int early = from(0, Math.min(END - 1, END - widest + 2));
            int late = Math.min(END, early + from(1, widest));
            tasks[i] = new int[] {early, late, from(1, Math.min(9, late - early)), from(1, Math.min(9, room))};
        }
    }

    private static String textOf(int room, int[][] tasks) {
        StringBuilder text = new StringBuilder("c").append(room).append(';');
        for (int[] t : tasks) {
            text.append('t').append(t[0]).append(' ').append(t[1]).append(' ').append(t[2]).append(' ').append(t[3]);
            text.append(';');
        }
        return text.toString();
    }

    private WindowDesk tell() {
        told = textOf(room, tasks);
        return Check.told(told);
    }

    // ---- rules make windows narrower without losing a schedule

    private void noRuleLosesASchedule() {
        for (int rule = 0; rule <= 4; rule++) {
            WindowDesk x = tell();
            WindowDesk y = tell();
            int others = x.tightens(rule);
            int seen = 0;
            due("count(3) behind tightens(" + rule + ")", x.count(3), y.count(3));
            due("count(4) behind tightens(" + rule + ")", x.count(4), y.count(4));
            for (int i = 0; i < tasks.length; i++) {
                due("task(" + i + ", 4) behind tightens(" + rule + ")", x.task(i, 4), y.task(i, 4));
                due("task(" + i + ", 5) behind tightens(" + rule + ")", x.task(i, 5), y.task(i, 5));
                holds("EARLY of " + i + " is never earlier", x.task(i, 0) >= y.task(i, 0));
                holds("LATE of " + i + " is never later", x.task(i, 1) <= y.task(i, 1));
                for (int side = 0; side < 2; side++) {
                    boolean other = x.task(i, side) != y.task(i, side);
                    seen += other ? 1 : 0;
                    whyIsAsTold(x, i, side, rule, other);
                }
            }
            due("tightens(" + rule + ")", others, seen);
            holds("BROKEN only without a schedule", x.count(2) == 0 || y.count(3) == 0);
            due("undo()", x.undo(), 0);
            for (int i = 0; i < tasks.length; i++) {
                due("task(" + i + ", 0) behind undo()", x.task(i, 0), tasks[i][0]);
                due("task(" + i + ", 1) behind undo()", x.task(i, 1), tasks[i][1]);
            }
        }
    }

    /** A rule where the window is another, NONE where it is not; a set of others, a span, or 0. */
    private void whyIsAsTold(WindowDesk x, int i, int side, int rule, boolean other) {
        int by = x.why(i, side, 0);
        int cause = x.why(i, side, 1);
        holds("WHY of " + i + ", " + side + " is told where it is another", other == (by != NONE));
        holds("WHY of " + i + ", " + side + " is that rule", !other || rule == 4 || by == rule);
        boolean good = by == NONE ? cause == NONE
            : by == 0 ? cause == 0
            : by == 3 ? cause / 100 >= 0 && cause / 100 < cause % 100 && cause % 100 <= END
            : cause > 0 && cause < 1 << tasks.length && (cause >> i & 1) == 0;
        holds("WHY of " + i + ", " + side + " by " + by + ": " + cause, good);
    }

    // ---- as if time ran the other way

    private static int[][] turned(int[][] tasks) {
        int[][] out = new int[tasks.length][];
        for (int i = 0; i < tasks.length; i++) {
            out[i] = new int[] {END - tasks[i][1], END - tasks[i][0], tasks[i][2], tasks[i][3]};
        }
        return out;
    }

    private void turnedRound() {
        WindowDesk x = tell();
        WindowDesk y = Check.told(textOf(room, turned(tasks)));
        due("count(3), turned", y.count(3), x.count(3));
        for (int i = 0; i < tasks.length; i++) {
            int bits = 0;
            for (int begin = 0; begin < END; begin++) {
                bits |= (x.task(i, 4) >> begin & 1) == 1 ? 1 << END - tasks[i][2] - begin : 0;
            }
            due("task(" + i + ", 4), turned", y.task(i, 4), bits);
        }
        for (int time = 0; time < END; time++) {
            due("must(" + time + "), turned", y.must(END - 1 - time), x.must(time));
        }
        holds("HEAVY of both or none", (x.count(5) == NONE) == (y.count(5) == NONE));
        for (int by = 0; by <= 10; by += 3) {
            due("odds(" + by + ", 0), turned", y.odds(by, 0), x.odds(by, 0));
            due("odds(" + by + ", 1), turned", y.odds(by, 1), x.odds(by, 1));
        }
        for (int rule = 0; rule < 4; rule++) {
            oneSideTurned(rule);
        }
    }

    /**
     * Where a rule changes no EARLY of the turned text, its LATE are told by windows as they were told:
     * they are then what the rule tells of EARLY here, with the same set or span.
     */
    private void oneSideTurned(int rule) {
        WindowDesk x = tell();
        WindowDesk y = Check.told(textOf(room, turned(tasks)));
        x.tightens(rule);
        y.tightens(rule);
        for (int i = 0; i < tasks.length; i++) {
            if (y.task(i, 0) != END - tasks[i][1]) {
                return;
            }
        }
        for (int i = 0; i < tasks.length; i++) {
            due("task(" + i + ", 1) by " + rule + ", turned", y.task(i, 1), END - x.task(i, 0));
            due("why(" + i + ", 1, 0) by " + rule + ", turned", y.why(i, 1, 0), x.why(i, 0, 0));
            due("why(" + i + ", 1, 1) by " + rule + ", turned", y.why(i, 1, 1), x.why(i, 0, 1));
        }
    }

    // ---- what there is agrees with itself

    private void schedulesAgree() {
        WindowDesk x = tell();
        boolean any = x.count(3) > 0;
        holds("SHORTEST, if there is a schedule", any == (x.count(4) != NONE));
        holds("HEAVY only without a schedule", !any || x.count(5) == NONE);
        int product = 1;
        for (int i = 0; i < tasks.length; i++) {
            int bits = x.task(i, 4);
            int first = x.task(i, 5);
            holds("BELONG of " + i + ", if there is a schedule", any == (bits != 0));
            holds("the first of " + i + ", if there is a schedule", any == (first != NONE));
            holds("the first of " + i + " belongs", !any || (bits >> first & 1) == 1);
            holds("BELONG of " + i + " within its window", bits >> tasks[i][1] - tasks[i][2] + 1 == 0
                && (bits & (1 << tasks[i][0]) - 1) == 0);
            holds("SHORTEST is no less than DONE of " + i, !any || x.count(4) >= tasks[i][0] + tasks[i][2]);
            product *= Integer.bitCount(bits);
        }
        holds("no more schedules than beginnings that belong", x.count(3) <= product);
        holds("9999 at most", x.count(3) <= 9999);
        if (any) {
            firstIsOne(x);
        }
    }

    /** Put to where the first has them, there is just that one. */
    private void firstIsOne(WindowDesk x) {
        int[] load = new int[END];
        int end = 0;
        int[] first = new int[tasks.length];
        for (int i = 0; i < tasks.length; i++) {
            first[i] = x.task(i, 5);
            end = Math.max(end, first[i] + tasks[i][2]);
            for (int time = first[i]; time < first[i] + tasks[i][2]; time++) {
                load[time] += tasks[i][3];
                holds("the first has room at " + time, load[time] <= room);
            }
        }
        holds("SHORTEST is no more than the first's end", x.count(4) <= end);
        for (int i = 0; i < tasks.length; i++) {
            x.puts(i, 0, first[i]);
            x.puts(i, 1, first[i] + tasks[i][2]);
        }
        due("count(3) of the first alone", x.count(3), 1);
        due("count(4) of the first alone", x.count(4), end);
        for (int i = 0; i < tasks.length; i++) {
            due("task(" + i + ", 4) of the first alone", x.task(i, 4), 1 << first[i]);
        }
    }

    private void setsAgree() {
        WindowDesk x = tell();
        int all = (1 << tasks.length) - 1;
        int energy = 0;
        for (int i = 0; i < tasks.length; i++) {
            energy += tasks[i][2] * tasks[i][3];
            due("wrap of " + i + " alone", x.wrap(1 << i), room * tasks[i][0] + tasks[i][2] * tasks[i][3]);
        }
        due("count(6)", x.count(6), energy);
        // What a set of tasks takes at least: no schedule is done before.
        holds("WRAP is no more than THE ROOM up to SHORTEST", x.count(4) == NONE || x.wrap(all) <= room * x.count(4));
        for (int set = 1; set <= all; set++) {
            for (int i = 0; i < tasks.length; i++) {
                holds("wrap(" + set + ") is no less than of a part", x.wrap(set | 1 << i) >= x.wrap(set));
            }
            int other = all & ~set;
            if (other != 0) {
                int which = x.grey(set, other, 1);
                due("grey(" + set + ", " + other + ", 0)", x.grey(set, other, 0), x.wrap(set | 1 << which));
                for (int i = 0; i < tasks.length; i++) {
                    holds("grey(" + set + ", " + other + ", 1) is the lowest of the greatest", (other >> i & 1) == 0
                        || x.wrap(set | 1 << i) < x.grey(set, other, 0)
                        || x.wrap(set | 1 << i) == x.grey(set, other, 0) && i >= which);
                }
            }
        }
    }

    /** By 0 of 10 none grows, by 10 all; between, each text with grown needs by its weight. */
    private void oddsAgree() {
        WindowDesk x = tell();
        due("odds(0, 0)", x.odds(0, 0), x.count(3) > 0 ? 1 : 0);
        due("odds(0, 1)", x.odds(0, 1), 1);
        boolean[] any = new boolean[1 << tasks.length];
        for (int grown = 0; grown < any.length; grown++) {
            int[][] more = new int[tasks.length][];
            for (int i = 0; i < tasks.length; i++) {
                more[i] = tasks[i].clone();
                more[i][3] = Math.min(room, more[i][3] + (grown >> i & 1));
                if (more[i][3] > 9) {
                    return;
                }
            }
            any[grown] = Check.told(textOf(room, more)).count(3) > 0;
        }
        for (int by = 0; by <= 10; by++) {
            int cases = 0;
            int lower = 1;
            for (int i = 0; i < tasks.length; i++) {
                lower *= 10;
            }
            for (int grown = 0; grown < any.length; grown++) {
                int weight = any[grown] ? 1 : 0;
                for (int i = 0; i < tasks.length; i++) {
                    weight *= (grown >> i & 1) == 1 ? by : 10 - by;
                }
                cases += weight;
            }
            int up = x.odds(by, 0);
            int down = x.odds(by, 1);
            holds("odds(" + by + ", ..) is " + cases + " of " + lower, (long) up * lower == (long) down * cases);
            holds("odds(" + by + ", ..) in least terms", leastTerms(up, down));
        }
    }

    private static boolean leastTerms(int up, int down) {
        // The lower number divides a power of 10: 2 and 5 are all that it can share.
        return down > 0 && !(up % 2 == 0 && down % 2 == 0) && !(up % 5 == 0 && down % 5 == 0);
    }

    public static void main(String[] args) {
        FollowsTest test = new FollowsTest();
        for (int run = 0; run < 3000; run++) {
            test.make();
            test.noRuleLosesASchedule();
            test.turnedRound();
            test.schedulesAgree();
            test.setsAgree();
            if (run % 10 == 0) {
                test.oddsAgree();
            }
        }
        test.check.end();
    }
}
