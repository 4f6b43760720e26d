/** For each promise: ordinary inputs, the edges that the document names, and wrong inputs; worked out by hand. */
public final class PromisesTest {
    private static final int BAD = -1, STATE = -2, FULL = -3, NONE = -9;
    private static final int[] WILD = {Integer.MIN_VALUE, -1000, -2, -1, 1000, Integer.MAX_VALUE};

    private final Check check = new Check();
    private String part = "";

    private void due(String call, int got, int want) {
        check.due(part + ": " + call, got, want);
    }

    /** EARLY, LATE of a task, and why of each. */
    private void dueWindow(WindowDesk x, int i, int early, int late) {
        due("task(" + i + ", 0)", x.task(i, 0), early);
        due("task(" + i + ", 1)", x.task(i, 1), late);
    }

    private void dueWhy(WindowDesk x, int i, int side, int rule, int by) {
        due("why(" + i + ", " + side + ", 0)", x.why(i, side, 0), rule);
        due("why(" + i + ", " + side + ", 1)", x.why(i, side, 1), by);
    }

    private void newObject() {
        part = "1 new";
        WindowDesk x = new WindowDesk();
        int[] counts = {0, 3, 0, 1, 0, NONE, 0, 0, 0};
        for (int what = 0; what < counts.length; what++) {
            due("count(" + what + ")", x.count(what), counts[what]);
        }
        due("task(0, 0)", x.task(0, 0), BAD);
        due("why(0, 0, 0)", x.why(0, 0, 0), BAD);
        due("puts(0, 0, 1)", x.puts(0, 0, 1), BAD);
        due("wrap(1)", x.wrap(1), BAD);
        due("undo()", x.undo(), STATE);
        due("back(0)", x.back(0), STATE);
        due("back(1)", x.back(1), STATE);
        due("must(0)", x.must(0), 0);
        due("odds(7, 0)", x.odds(7, 0), 1);
        due("odds(7, 1)", x.odds(7, 1), 1);
        due("desk()", x.desk(), 0);
        due("BAD", WindowDesk.BAD, BAD);
        due("STATE", WindowDesk.STATE, STATE);
        due("FULL", WindowDesk.FULL, FULL);
        due("NONE", WindowDesk.NONE, NONE);
    }

    private void type() {
        part = "2 type";
        WindowDesk x = new WindowDesk();
        due("type(0)", x.type(0), 1);
        due("type(255)", x.type(255), 2);
        due("type(256)", x.type(256), BAD);
        for (int wild : WILD) {
            due("type(" + wild + ")", x.type(wild), BAD);
        }
        due("count(7)", x.count(7), 2);
        for (int k = 3; k <= 100; k++) {
            due("type(32)", x.type(32), k);
        }
        due("type(32) when full", x.type(32), FULL);
        due("type(256) when full", x.type(256), BAD);
        due("count(7)", x.count(7), 100);
        due("clear()", x.clear(), 100);
        due("type(32)", x.type(32), 1);
    }

    private void clear() {
        part = "3 clear";
        WindowDesk x = Check.told("c5;t1 6 2 4;");
        due("clear()", x.clear(), 0);
        Check.typeAll(x, "c7;");
        due("clear()", x.clear(), 3);
        due("clear()", x.clear(), 0);
        due("count(7)", x.count(7), 0);
        due("count(0)", x.count(0), 1);
        due("count(1)", x.count(1), 5);
    }

    private void desk() {
        part = "4 desk";
        String[] good = {"", "   ", "c1;", "c20;", " c 2 ; t 1 9 2 2 ; t0 6 3 1;", "t0 1 1 1;", "t15 16 1 3;",
            "c9;t0 9 9 9;", "t0 16 1 1;t0 16 1 1;t0 16 1 1;t0 16 1 1;t0 16 1 1;"};
        int[] items = {0, 0, 1, 1, 3, 1, 1, 2, 5};
        for (int k = 0; k < good.length; k++) {
            WindowDesk x = new WindowDesk();
            Check.typeAll(x, good[k]);
            due("desk() of '" + good[k] + "'", x.desk(), items[k]);
            due("count(7)", x.count(7), 0);
        }
        String[] bad = {";", "x", "C3;", "3", "c", "c ", "c3", "c3 ", "c0;", "c21;", "c100;", "c03;", "c00;", "cc", "c;",
            "c3 4;", "c3t", "c3;c3;", "t0 5 1 1;c3;", "t", "t16 17 1 1;", "t5 5 1 1;", "t5 4 1 1;", "t5 17 1 1;",
            "t0 0 1 1;", "t5 8 4 1;", "t5 8 0 1;", "t0 16 10 1;", "t0 5 1 0;", "t0 5 1 4;", "c20;t0 5 1 10;",
            "t0 5 1 1", "t0 5 1 1 1;", "t0 5 1;", "t0;", "t00 5 1 1;", "t0 05 1 1;", "t0 5 01 1;", "t0 5 1 01;",
            "t-1 5 1 1;", "t0 5 1 1;;", "t0 5 1 1;\t", "t5 5 1 1;x", "t0 99999999999999999999 1 1;",
            "t0 4294967301 1 1;", "t0 4294967301x", "t1.5 1 1",
            "t0 9 1 1;t0 9 1 1;t0 9 1 1;t0 9 1 1;t0 9 1 1;t0 9 1 1;"};
        int[] faults = {0, 0, 0, 0, 1, 2, 2, 3, 1, 1, 1, 1, 1, 1, 1,
            3, 2, 3, 9, 1, 1, 3, 3, 3,
            3, 5, 5, 6, 7, 7, 11,
            8, 9, 6, 2, 1, 3, 5, 7,
            1, 9, 9, 3, 3,
            3, 3, 2,
            45};
        for (int k = 0; k < bad.length; k++) {
            WindowDesk x = Check.told("c7;t2 9 3 5;");
            x.puts(0, 0, 3);
            x.keep(0);
            Check.typeAll(x, bad[k]);
            due("desk() of '" + bad[k] + "'", x.desk(), -10 - faults[k]);
            due("count(7)", x.count(7), bad[k].length());
            due("count(1)", x.count(1), 7);
            dueWindow(x, 0, 3, 9);
            due("task(0, 2)", x.task(0, 2), 3);
            due("task(0, 3)", x.task(0, 3), 5);
            due("count(8)", x.count(8), 1);
            due("back(0)", x.back(0), 1);
        }
        deskAnew();
    }

    private void deskAnew() {
        WindowDesk x = Check.told("c7;t2 9 3 5;t0 4 2 1;");
        x.tightens(4);
        x.puts(0, 0, 4);
        x.keep(0);
        x.keep(1);
        Check.typeAll(x, "t1 4 2 3;");
        due("desk()", x.desk(), 1);
        due("count(0)", x.count(0), 1);
        due("count(1), not told", x.count(1), 3);
        due("count(8)", x.count(8), 0);
        due("undo()", x.undo(), STATE);
        due("back(0)", x.back(0), STATE);
        due("back(1)", x.back(1), STATE);
        dueWindow(x, 0, 1, 4);
        dueWhy(x, 0, 0, NONE, NONE);
        due("task(1, 0)", x.task(1, 0), BAD);
        due("desk() of nothing", x.desk(), 0);
        due("count(0)", x.count(0), 0);
    }

    private void task() {
        part = "5 task";
        WindowDesk x = Check.told("c2;t0 4 2 2;t0 6 2 1;");
        int[][] want = {{0, 4, 2, 2, 0b111, 0}, {0, 6, 2, 1, 0b11101, 2}};
        for (int i = 0; i < 2; i++) {
            for (int what = 0; what < 6; what++) {
                due("task(" + i + ", " + what + ")", x.task(i, what), want[i][what]);
            }
            due("task(" + i + ", 6)", x.task(i, 6), BAD);
            due("task(" + i + ", -1)", x.task(i, -1), BAD);
        }
        due("task(2, 0)", x.task(2, 0), BAD);
        for (int wild : WILD) {
            due("task(" + wild + ", 0)", x.task(wild, 0), BAD);
            due("task(0, " + wild + ")", x.task(0, wild), BAD);
        }
        x = Check.told("t0 2 2 3;t0 3 2 3;");
        due("task(0, 4), no schedule", x.task(0, 4), 0);
        due("task(0, 5), no schedule", x.task(0, 5), NONE);
        x = Check.told("t15 16 1 1;");
        due("task(0, 4)", x.task(0, 4), 1 << 15);
        due("task(0, 5)", x.task(0, 5), 15);
    }

    private void why() {
        part = "6 why";
        WindowDesk x = Check.told("c1;t0 4 2 1;t1 4 2 1;t0 10 3 1;");
        dueWhy(x, 2, 0, NONE, NONE);
        due("tightens(1)", x.tightens(1), 2);
        dueWindow(x, 2, 4, 10);
        dueWhy(x, 2, 0, 1, 3);
        dueWhy(x, 2, 1, NONE, NONE);
        dueWindow(x, 0, 0, 2);
        dueWhy(x, 0, 0, NONE, NONE);
        dueWhy(x, 0, 1, 1, 2);
        due("puts(2, 1, 9)", x.puts(2, 1, 9), 10);
        dueWhy(x, 2, 0, 1, 3);
        due("puts(2, 0, 5)", x.puts(2, 0, 5), 4);
        dueWhy(x, 2, 0, NONE, NONE);
        x.undo();
        dueWhy(x, 2, 0, 1, 3);
        due("why(3, 0, 0)", x.why(3, 0, 0), BAD);
        due("why(0, 2, 0)", x.why(0, 2, 0), BAD);
        due("why(0, 0, 2)", x.why(0, 0, 2), BAD);
        for (int wild : WILD) {
            due("why(" + wild + ", 0, 0)", x.why(wild, 0, 0), BAD);
            due("why(0, " + wild + ", 0)", x.why(0, wild, 0), BAD);
            due("why(0, 0, " + wild + ")", x.why(0, 0, wild), BAD);
        }
    }

    private void must() {
        part = "7 must";
        WindowDesk x = Check.told("c9;t0 5 3 2;t1 4 3 4;t10 16 6 1;t3 9 3 1;");
        int[] want = {0, 4, 6, 4, 0, 0, 0, 0, 0, 0, 1, 1, 1, 1, 1, 1};
        for (int time = 0; time < 16; time++) {
            due("must(" + time + ")", x.must(time), want[time]);
        }
        due("must(16)", x.must(16), BAD);
        for (int wild : WILD) {
            due("must(" + wild + ")", x.must(wild), BAD);
        }
    }

    private void tightens() {
        part = "8 tightens";
        byMust();
        byEdge();
        byFirst();
        bySpan();
        byAll();
        WindowDesk x = Check.told("t0 5 3 1;");
        due("tightens(5)", x.tightens(5), BAD);
        for (int wild : WILD) {
            due("tightens(" + wild + ")", x.tightens(wild), BAD);
        }
        due("count(8)", x.count(8), 0);
        for (int rule = 0; rule < 5; rule++) {
            due("tightens(" + rule + ") alone", x.tightens(rule), 0);
        }
        due("count(8)", x.count(8), 5);
    }

    private void byMust() {
        // The first must run at 3; the second can not end before it, and must be behind it.
        // LATE is by the new EARLY: now the second must run from 4 on, and the first ends by 4.
        WindowDesk x = Check.told("c2;t2 5 2 2;t0 8 4 1;");
        due("tightens(0)", x.tightens(0), 2);
        dueWindow(x, 1, 4, 8);
        dueWhy(x, 1, 0, 0, 0);
        dueWindow(x, 0, 2, 4);
        dueWhy(x, 0, 1, 0, 0);
        // Both must run at 1 and find no place: EARLY is START and 1, LATE stays, it is BROKEN.
        x = Check.told("t0 3 2 2;t0 3 2 2;");
        due("tightens(0)", x.tightens(0), 2);
        dueWindow(x, 0, 2, 3);
        dueWindow(x, 1, 2, 3);
        dueWhy(x, 0, 1, NONE, NONE);
        due("count(2)", x.count(2), 1);
        for (int rule = 0; rule < 5; rule++) {
            due("tightens(" + rule + ") when broken", x.tightens(rule), STATE);
        }
        due("tightens(5) when broken", x.tightens(5), BAD);
        due("count(8)", x.count(8), 1);
        due("count(3)", x.count(3), 0);
        due("count(4)", x.count(4), NONE);
    }

    private void byEdge() {
        // 9 of ENERGY beside 3 free of 4: REST is 9 less 1 times 3, by 3 is 2.
        WindowDesk x = Check.told("c4;t0 3 3 3;t0 9 2 3;");
        due("tightens(1)", x.tightens(1), 1);
        dueWindow(x, 1, 2, 9);
        dueWhy(x, 1, 0, 1, 1);
        // Turned round it is LATE: the same set, 16 less the number.
        x = Check.told("c4;t13 16 3 3;t7 16 2 3;");
        due("tightens(1)", x.tightens(1), 1);
        dueWindow(x, 1, 7, 14);
        dueWhy(x, 1, 1, 1, 1);
        // REST of 4 by 3 is cut up to 2.
        x = Check.told("c3;t0 2 2 2;t0 9 3 3;");
        x.tightens(1);
        dueWindow(x, 1, 2, 9);
        // Just as much as there is room for: nothing is told.
        x = Check.told("c1;t0 4 2 1;t0 9 2 1;");
        due("tightens(1)", x.tightens(1), 0);
    }

    private void byFirst() {
        WindowDesk x = Check.told("c1;t0 5 3 1;t1 16 2 1;");
        due("tightens(2)", x.tightens(2), 1);
        dueWindow(x, 1, 3, 16);
        dueWhy(x, 1, 0, 2, 1);
        dueWindow(x, 0, 0, 5);
        // The edges do not see it: 5 of ENERGY is no more than 5.
        x = Check.told("c1;t0 5 3 1;t1 16 2 1;");
        due("tightens(1)", x.tightens(1), 0);
        // EARLY of the set is more than that of the task: nothing.
        x = Check.told("c1;t1 5 3 1;t0 16 2 1;");
        due("tightens(2)", x.tightens(2), 0);
        // As time runs the other way.
        x = Check.told("c1;t11 16 3 1;t0 15 2 1;");
        due("tightens(2)", x.tightens(2), 1);
        dueWindow(x, 1, 0, 13);
        dueWhy(x, 1, 1, 2, 1);
    }

    private void bySpan() {
        // From 1 to 3 the others leave nothing; from 2 to 3 too, but that is the greater number.
        WindowDesk x = Check.told("c2;t0 4 3 1;t0 4 3 1;t0 10 4 1;");
        due("tightens(3)", x.tightens(3), 1);
        dueWindow(x, 2, 3, 10);
        dueWhy(x, 2, 0, 3, 103);
        // Turned round the span is told as time runs there: from 1 to 3 again.
        x = Check.told("c2;t12 16 3 1;t12 16 3 1;t6 16 4 1;");
        due("tightens(3)", x.tightens(3), 1);
        dueWindow(x, 2, 6, 13);
        dueWhy(x, 2, 1, 3, 103);
    }

    private void byAll() {
        // What EDGE alone does (see why), then what follows of it: the second from 2 to 4.
        WindowDesk x = Check.told("c1;t0 4 2 1;t1 4 2 1;t0 10 3 1;");
        due("tightens(4)", x.tightens(4), 3);
        dueWindow(x, 0, 0, 2);
        dueWindow(x, 1, 2, 4);
        dueWindow(x, 2, 4, 10);
        due("tightens(4)", x.tightens(4), 0);
        due("count(8)", x.count(8), 2);
        due("undo()", x.undo(), 1);
        due("undo()", x.undo(), 0);
        dueWindow(x, 0, 0, 4);
        dueWindow(x, 2, 0, 10);
        dueWhy(x, 2, 0, NONE, NONE);
    }

    private void puts() {
        part = "9 puts";
        WindowDesk x = Check.told("t2 10 3 1;t0 3 2 2;t0 3 2 2;");
        due("puts(0, 0, 2)", x.puts(0, 0, 2), STATE);
        due("puts(0, 0, 1)", x.puts(0, 0, 1), STATE);
        due("puts(0, 0, 8)", x.puts(0, 0, 8), STATE);
        due("puts(0, 1, 10)", x.puts(0, 1, 10), STATE);
        due("puts(0, 1, 11)", x.puts(0, 1, 11), STATE);
        due("puts(0, 1, 4)", x.puts(0, 1, 4), STATE);
        due("puts(0, 1, 0)", x.puts(0, 1, 0), STATE);
        due("puts(0, 0, 16)", x.puts(0, 0, 16), STATE);
        due("count(8)", x.count(8), 0);
        due("puts(0, 0, 3)", x.puts(0, 0, 3), 2);
        due("puts(0, 1, 6)", x.puts(0, 1, 6), 10);
        dueWindow(x, 0, 3, 6);
        due("puts(0, 0, 4)", x.puts(0, 0, 4), STATE);
        due("puts(0, 1, 5)", x.puts(0, 1, 5), STATE);
        due("count(8)", x.count(8), 2);
        due("puts(3, 0, 4)", x.puts(3, 0, 4), BAD);
        due("puts(0, 2, 4)", x.puts(0, 2, 4), BAD);
        due("puts(0, 0, 17)", x.puts(0, 0, 17), BAD);
        for (int wild : WILD) {
            due("puts(" + wild + ", 0, 4)", x.puts(wild, 0, 4), BAD);
            due("puts(0, " + wild + ", 4)", x.puts(0, wild, 4), BAD);
            due("puts(0, 0, " + wild + ")", x.puts(0, 0, wild), BAD);
        }
        x = Check.told("t2 10 3 1;t0 3 2 2;t0 3 2 2;");
        x.tightens(0);
        due("puts(0, 0, 4) when broken", x.puts(0, 0, 4), STATE);
        due("puts(3, 0, 4) when broken", x.puts(3, 0, 4), BAD);
    }

    private void undo() {
        part = "10 undo";
        WindowDesk x = Check.told("t0 16 1 1;t0 3 2 2;");
        due("undo()", x.undo(), STATE);
        for (int v = 1; v <= 12; v++) {
            due("puts(0, 0, " + v + ")", x.puts(0, 0, v), v - 1);
            due("count(8)", x.count(8), Math.min(10, v));
        }
        for (int left = 9; left >= 0; left--) {
            due("undo()", x.undo(), left);
            due("task(0, 0)", x.task(0, 0), left + 2);
        }
        due("undo()", x.undo(), STATE);
        due("task(0, 0)", x.task(0, 0), 2);
        // What was refused is not known; what changed nothing is.
        x.puts(0, 0, 1);
        x.tightens(9);
        due("count(8)", x.count(8), 0);
        due("tightens(1)", x.tightens(1), 0);
        due("undo()", x.undo(), 0);
        // Undone out of BROKEN.
        x = Check.told("t0 3 2 2;t0 3 2 2;");
        x.tightens(4);
        due("count(2)", x.count(2), 1);
        due("undo()", x.undo(), 0);
        due("count(2)", x.count(2), 0);
        dueWindow(x, 0, 0, 3);
        dueWhy(x, 0, 0, NONE, NONE);
    }

    private void wrap() {
        part = "11 wrap";
        WindowDesk x = Check.told("c2;t0 9 2 1;t4 9 3 2;t1 9 1 1;");
        int[] want = {BAD, 2, 14, 14, 3, 3, 14, 14, BAD};
        for (int set = 0; set < want.length; set++) {
            due("wrap(" + set + ")", x.wrap(set), want[set]);
        }
        // All together are more than any part: 1 times 0 and 12.
        due("wrap(7), together", Check.told("c3;t0 9 4 1;t0 9 2 2;t1 9 2 2;").wrap(7), 12);
        for (int wild : WILD) {
            due("wrap(" + wild + ")", x.wrap(wild), BAD);
        }
    }

    private void grey() {
        part = "12 grey";
        WindowDesk x = Check.told("c1;t0 9 2 1;t0 9 2 1;t0 9 3 1;t9 12 1 1;");
        due("grey(0, 3, 0)", x.grey(0, 3, 0), 2);
        due("grey(0, 3, 1), the lowest", x.grey(0, 3, 1), 0);
        due("grey(1, 6, 0)", x.grey(1, 6, 0), 5);
        due("grey(1, 6, 1)", x.grey(1, 6, 1), 2);
        due("grey(8, 7, 0)", x.grey(8, 7, 0), 10);
        due("grey(8, 6, 1)", x.grey(8, 6, 1), 1);
        due("grey(7, 8, 0)", x.grey(7, 8, 0), 10);
        due("grey(7, 8, 1)", x.grey(7, 8, 1), 3);
        due("grey(1, 1, 0)", x.grey(1, 1, 0), BAD);
        due("grey(3, 6, 0)", x.grey(3, 6, 0), BAD);
        due("grey(1, 0, 0)", x.grey(1, 0, 0), BAD);
        due("grey(0, 0, 0)", x.grey(0, 0, 0), BAD);
        due("grey(1, 16, 0)", x.grey(1, 16, 0), BAD);
        due("grey(16, 1, 0)", x.grey(16, 1, 0), BAD);
        due("grey(1, 2, 2)", x.grey(1, 2, 2), BAD);
        for (int wild : WILD) {
            due("grey(" + wild + ", 1, 0)", x.grey(wild, 1, 0), BAD);
            due("grey(1, " + wild + ", 0)", x.grey(1, wild, 0), BAD);
            due("grey(1, 2, " + wild + ")", x.grey(1, 2, wild), BAD);
        }
    }

    private void dueOdds(WindowDesk x, int by, int upper, int lower) {
        due("odds(" + by + ", 0)", x.odds(by, 0), upper);
        due("odds(" + by + ", 1)", x.odds(by, 1), lower);
    }

    private void odds() {
        part = "13 odds";
        // A schedule as long as neither grows.
        WindowDesk x = Check.told("c3;t0 1 1 2;t0 1 1 1;");
        dueOdds(x, 0, 1, 1);
        dueOdds(x, 1, 81, 100);
        dueOdds(x, 5, 1, 4);
        dueOdds(x, 10, 0, 1);
        due("task(0, 3) after odds", x.task(0, 3), 2);
        // No NEED grows above THE ROOM.
        x = Check.told("c2;t0 2 1 2;t0 2 1 2;");
        dueOdds(x, 3, 1, 1);
        dueOdds(x, 10, 1, 1);
        // 9 may become 10.
        x = Check.told("c18;t0 1 1 9;t0 1 1 9;");
        dueOdds(x, 5, 1, 4);
        x = Check.told("c19;t0 1 1 9;t0 1 1 9;");
        dueOdds(x, 5, 3, 4);
        // None at all.
        dueOdds(Check.told("c1;t0 1 1 1;t0 1 1 1;"), 0, 0, 1);
        // Five: not all of them may grow.
        x = Check.told("c9;t0 1 1 1;t0 1 1 1;t0 1 1 1;t0 1 1 1;t0 1 1 1;");
        dueOdds(x, 1, 99999, 100000);
        due("odds(11, 0)", x.odds(11, 0), BAD);
        due("odds(0, 2)", x.odds(0, 2), BAD);
        for (int wild : WILD) {
            due("odds(" + wild + ", 0)", x.odds(wild, 0), BAD);
            due("odds(0, " + wild + ")", x.odds(0, wild), BAD);
        }
    }

    private void images() {
        part = "14 keep, 15 back";
        WindowDesk x = Check.told("c1;t0 4 2 1;t1 4 2 1;t0 10 3 1;");
        due("back(1), none kept", x.back(1), STATE);
        due("keep(0)", x.keep(0), 3);
        due("back(1), none kept", x.back(1), STATE);
        x.tightens(1);
        due("keep(1)", x.keep(1), 3);
        due("count(8) after keep", x.count(8), 1);
        x.puts(2, 0, 6);
        Check.typeAll(x, "c5");
        due("back(1)", x.back(1), 3);
        due("count(8) after back", x.count(8), 0);
        due("undo()", x.undo(), STATE);
        due("count(7) after back", x.count(7), 2);
        dueWindow(x, 2, 4, 10);
        dueWhy(x, 2, 0, 1, 3);
        due("back(0)", x.back(0), 3);
        dueWindow(x, 2, 0, 10);
        dueWhy(x, 2, 0, NONE, NONE);
        due("back(1) again", x.back(1), 3);
        dueWindow(x, 0, 0, 2);
        // What is done behind back() does not touch the image; a new one takes its place.
        x.puts(2, 0, 7);
        due("undo()", x.undo(), 0);
        x.puts(2, 1, 9);
        due("back(1)", x.back(1), 3);
        dueWindow(x, 2, 4, 10);
        x.puts(2, 1, 9);
        due("keep(0)", x.keep(0), 3);
        x.back(1);
        x.back(0);
        dueWindow(x, 2, 4, 9);
        due("keep(2)", x.keep(2), BAD);
        due("back(2)", x.back(2), BAD);
        for (int wild : WILD) {
            due("keep(" + wild + ")", x.keep(wild), BAD);
            due("back(" + wild + ")", x.back(wild), BAD);
        }
        // A BROKEN desk is kept as well.
        x = Check.told("t0 3 2 2;t0 3 2 2;");
        x.tightens(0);
        due("keep(0) when broken", x.keep(0), 2);
        x.undo();
        due("back(0)", x.back(0), 2);
        due("count(2)", x.count(2), 1);
    }

    private void count() {
        part = "16 count";
        WindowDesk x = Check.told("c2;t0 4 2 2;t0 6 2 1;");
        int[] want = {2, 2, 0, 7, 4, NONE, 6, 0, 0};
        for (int what = 0; what < want.length; what++) {
            due("count(" + what + ")", x.count(what), want[what]);
        }
        due("count(9)", x.count(9), BAD);
        for (int wild : WILD) {
            due("count(" + wild + ")", x.count(wild), BAD);
        }
        // From 1 to 5 there are 12 for 8, from 2 to 4 there are 8 for 4: the first of them is told.
        x = Check.told("c2;t1 5 3 2;t1 5 3 2;");
        due("count(5)", x.count(5), 105);
        due("count(3)", x.count(3), 0);
        // 9999 at most.
        due("count(3)", Check.told("c9;t0 16 1 1;t0 16 1 1;t0 16 1 1;t0 16 1 1;").count(3), 9999);
        due("count(3)", Check.told("c9;t0 11 1 1;t0 11 1 1;t0 11 1 1;t0 8 1 1;").count(3), 9999);
        due("count(3)", Check.told("c9;t0 16 1 1;t0 16 1 1;t0 16 1 1;t0 2 1 1;").count(3), 8192);
        // The first schedule has the second task wait for the third and ends by 6; another ends by 5.
        x = Check.told("c1;t0 9 1 1;t0 9 2 1;t2 4 2 1;");
        due("task(1, 5)", x.task(1, 5), 4);
        due("count(4)", x.count(4), 5);
        Check.typeAll(x, "abc");
        due("count(7)", x.count(7), 3);
        x.tightens(4);
        due("count(8)", x.count(8), 1);
    }

    public static void main(String[] args) {
        PromisesTest test = new PromisesTest();
        test.newObject();
        test.type();
        test.clear();
        test.desk();
        test.task();
        test.why();
        test.must();
        test.tightens();
        test.puts();
        test.undo();
        test.wrap();
        test.grey();
        test.odds();
        test.images();
        test.count();
        test.check.end();
    }
}
