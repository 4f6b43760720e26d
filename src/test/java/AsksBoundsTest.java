/** What there is: schedules, sets, spans, odds, images, counts; what lies on each bound and just beyond it. */
public final class AsksBoundsTest {
    private static final int BAD = -1, STATE = -2, NONE = -9;
    private static final String FIVE = "t0 9 1 1;t0 9 1 1;t0 9 1 1;t0 9 1 1;t0 9 1 1;";

    private final Check check = new Check();
    private String sentence = "";

    private void due(String call, int got, int want) {
        check.due("'" + sentence + "' " + call, got, want);
    }

    private void schedules(String text, int want) {
        due("count(3) of " + text, Check.told(text).count(3), want);
    }

    private void firsts(String text, int... want) {
        WindowDesk x = Check.told(text);
        for (int i = 0; i < want.length; i++) {
            due("task(" + i + ", 5) of " + text, x.task(i, 5), want[i]);
        }
    }

    private void belongs(String text, int... want) {
        WindowDesk x = Check.told(text);
        for (int i = 0; i < want.length; i++) {
            due("task(" + i + ", 4) of " + text, x.task(i, 4), want[i]);
        }
    }

    // ---- schedules

    private void roomAtEachTime() {
        sentence = "at each time NEEDS of TASKS that run are THE ROOM together at most";
        schedules("c3;t0 1 1 1;t0 1 1 2;", 1);
        schedules("c3;t0 1 1 2;t0 1 1 2;", 0);
        schedules("c2;t0 1 1 1;t0 1 1 2;", 0);
        schedules("c20;t0 1 1 9;t0 1 1 9;t0 1 1 2;", 1);
        schedules("c20;t0 1 1 9;t0 1 1 9;t0 1 1 3;", 0);
        // One runs up to where the other begins.
        schedules("c1;t0 4 2 1;t0 4 2 1;", 2);
        schedules("c1;t0 3 2 1;t0 3 2 1;", 0);
    }

    private void withinWindows() {
        sentence = "SCHEDULES: beginnings of all TASKS within their windows";
        schedules("", 1);
        schedules("t0 1 1 1;", 1);
        schedules("t15 16 1 1;", 1);
        schedules("t0 16 1 1;", 16);
        schedules("t0 16 9 1;", 8);
        schedules("t3 7 4 1;", 1);
        schedules("t3 8 4 1;", 2);
    }

    private void atMost9999() {
        sentence = "how many (9999 at most)";
        schedules("c3;t2 16 1 3;t2 12 2 2;t0 12 2 1;t1 16 3 1;", 9998);
        schedules("c3;t0 15 3 1;t0 15 2 3;t0 13 1 2;t1 13 3 1;", 9999);
        schedules("c9;t0 10 1 1;t0 10 1 1;t0 10 1 1;t0 10 1 1;", 9999);
        schedules("c2;t2 15 1 2;t1 13 2 1;t0 12 3 1;t2 16 2 1;", 9999);
        schedules("c5;t0 16 1 1;t0 16 1 1;t0 16 1 1;t0 16 1 1;t0 16 1 1;", 9999);
        schedules("c9;t0 10 1 1;t0 10 1 1;t0 10 1 1;t0 9 1 1;", 9000);
    }

    /** What one text left behind in the object must not show in the answers to the next. */
    private void asksOfOneObject() {
        sentence = "4: THE TEXT tells all anew: schedules too";
        WindowDesk x = new WindowDesk();
        String[] texts = {"c1;t0 4 1 1;t0 4 2 1;t0 9 3 1;", "c1;t0 4 2 1;t0 4 1 1;", "c1;t0 9 3 1;t0 4 2 1;t0 4 1 1;",
            "c1;t0 5 1 1;t0 5 1 1;t0 5 1 1;t0 5 1 1;t0 5 1 1;", "", "c1;t0 4 2 1;t0 4 1 1;t0 4 1 1;", "t0 16 9 1;"};
        int[] want = {20, 6, 20, 120, 1, 6, 8};
        for (int k = 0; k < texts.length; k++) {
            Check.typeAll(x, texts[k]);
            x.desk();
            due("count(3) of " + texts[k], x.count(3), want[k]);
            due("count(3) of " + texts[k] + " again", x.count(3), want[k]);
        }
    }

    private void firstSchedule() {
        sentence = "the first (by TASK 0, then 1 ..)";
        firsts("c1;t0 4 2 1;t0 4 2 1;", 0, 2);
        firsts("c1;t0 9 2 1;t0 1 1 1;", 1, 0);
        firsts("c1;t0 9 2 1;t1 2 1 1;", 2, 1);
        firsts("c1;t0 9 1 1;t0 9 2 1;t2 4 2 1;", 0, 4, 2);
        firsts("t15 16 1 1;", 15);
        firsts("t0 16 9 1;", 0);
        firsts("c1;t0 1 1 1;t0 1 1 1;t0 9 1 1;", NONE, NONE, NONE);
        firsts("c1;" + FIVE, 0, 1, 2, 3, 4);
    }

    private void belonging() {
        sentence = "BELONG: beginnings of a TASK (bits) that are of any";
        belongs("t0 1 1 1;", 1);
        belongs("t15 16 1 1;", 1 << 15);
        belongs("t0 16 1 1;", 0xFFFF);
        belongs("t0 16 9 1;", 0xFF);
        belongs("c1;t0 3 1 1;t1 2 1 1;", 0b101, 0b10);
        belongs("c1;t0 1 1 1;t0 1 1 1;t0 9 1 1;", 0, 0, 0);
    }

    private void shortest() {
        sentence = "SHORTEST: the least time by which all are done; NONE";
        String[] texts = {"", "t0 1 1 1;", "t7 16 9 1;", "t15 16 1 1;", "t0 16 9 1;", "c1;t0 2 1 1;t0 2 1 1;",
            "c1;t0 2 2 1;t0 2 1 1;", "c1;t0 16 9 1;t0 16 7 1;", "c1;t0 16 9 1;t0 16 8 1;", "c1;" + FIVE};
        int[] want = {0, 1, 16, 16, 9, 2, NONE, 16, NONE, 5};
        for (int k = 0; k < texts.length; k++) {
            due("count(4) of " + texts[k], Check.told(texts[k]).count(4), want[k]);
        }
    }

    private void nothingIsChanged() {
        sentence = "As things are NOW; nothing is changed";
        WindowDesk x = Check.told("c3;t0 9 2 2;t1 9 3 1;t0 16 4 3;");
        x.puts(0, 0, 1);
        x.tightens(4);
        Check.typeAll(x, "c1");
        int[] before = Probe.sights(x);
        for (int k = 0; k < 3; k++) {
            x.odds(7, 0);
            x.grey(1, 6, 1);
            int[] after = Probe.sights(x);
            for (int place = 0; place < before.length; place++) {
                due("sight " + place, after[place], before[place]);
            }
        }
        // NOW: by windows as rules and puts left them.
        x = Check.told("c1;t0 4 2 1;t0 4 2 1;");
        x.puts(0, 0, 2);
        due("count(3)", x.count(3), 1);
        due("task(0, 4)", x.task(0, 4), 0b100);
        due("task(1, 5)", x.task(1, 5), 0);
        due("wrap(1)", x.wrap(1), 4);
        x.undo();
        due("count(3)", x.count(3), 2);
        due("wrap(1)", x.wrap(1), 2);
    }

    private void taskNumbers() {
        sentence = "5: Of a TASK: 0 EARLY .. 5. BAD.";
        WindowDesk x = Check.told(FIVE);
        for (int i = 0; i < 5; i++) {
            due("task(" + i + ", 0)", x.task(i, 0), 0);
            due("task(" + i + ", 5)", x.task(i, 5), i / 3);
            due("task(" + i + ", -1)", x.task(i, -1), BAD);
            due("task(" + i + ", 6)", x.task(i, 6), BAD);
        }
        for (int what = -1; what <= 6; what++) {
            due("task(-1, " + what + ")", x.task(-1, what), BAD);
            due("task(5, " + what + ")", x.task(5, what), BAD);
            due("task(1, " + what + ") of one TASK", Check.told("t0 9 1 1;").task(1, what), BAD);
        }
    }

    // ---- sets

    private void wrapSets() {
        sentence = "11: WRAP of a set (not empty). BAD.";
        due("wrap(0) of no TASKS", new WindowDesk().wrap(0), BAD);
        due("wrap(1) of no TASKS", new WindowDesk().wrap(1), BAD);
        String text = "";
        for (int number = 1; number <= 5; number++) {
            text += "t0 9 1 1;";
            WindowDesk x = Check.told(text);
            due("wrap(-1)", x.wrap(-1), BAD);
            due("wrap(0)", x.wrap(0), BAD);
            for (int set = 1; set < 1 << number; set++) {
                due("wrap(" + set + ") of " + number, x.wrap(set), Integer.bitCount(set));
            }
            due("wrap of one TASK more than " + number, x.wrap(1 << number), BAD);
            due("wrap of all and one more than " + number, x.wrap((2 << number) - 1), BAD);
        }
        WindowDesk x = Check.told(FIVE);
        due("wrap(least int)", x.wrap(Integer.MIN_VALUE), BAD);
        due("wrap(least int and 1)", x.wrap(Integer.MIN_VALUE + 1), BAD);
        due("wrap(greatest int)", x.wrap(Integer.MAX_VALUE), BAD);
    }

    private void wrapGreatest() {
        sentence = "the greatest, of all its parts (not empty), of THE ROOM times EARLY of the part and its ENERGY";
        due("the least", Check.told("c1;t0 1 1 1;").wrap(1), 1);
        String late = "t15 16 1 9;";
        due("the greatest", Check.told("c20;" + late + late + late + late + late).wrap(31), 345);
        WindowDesk x = Check.told("c20;t0 9 9 9;t15 16 1 9;");
        due("wrap(1)", x.wrap(1), 81);
        due("wrap(2)", x.wrap(2), 309);
        due("wrap(3), a part", x.wrap(3), 309);
        x = Check.told("c2;t0 9 4 1;t1 9 3 1;t1 9 2 1;");
        due("wrap(3), all", x.wrap(3), 7);
        due("wrap(6), all", x.wrap(6), 7);
        due("wrap(7), all", x.wrap(7), 9);
    }

    private void greySets() {
        sentence = "12: two sets that have no TASK together (the second not empty). BAD.";
        WindowDesk x = Check.told(FIVE);
        due("grey(0, 1, 0)", x.grey(0, 1, 0), 1);
        due("grey(0, 31, 0)", x.grey(0, 31, 0), 1);
        due("grey(0, 31, 1)", x.grey(0, 31, 1), 0);
        due("grey(0, 16, 1)", x.grey(0, 16, 1), 4);
        due("grey(15, 16, 0)", x.grey(15, 16, 0), 5);
        due("grey(30, 1, 1)", x.grey(30, 1, 1), 0);
        due("grey(16, 15, 1)", x.grey(16, 15, 1), 0);
        due("grey(0, 0, 0)", x.grey(0, 0, 0), BAD);
        due("grey(31, 0, 0)", x.grey(31, 0, 0), BAD);
        due("grey(31, 1, 0)", x.grey(31, 1, 0), BAD);
        due("grey(31, 31, 0)", x.grey(31, 31, 0), BAD);
        due("grey(3, 6, 0)", x.grey(3, 6, 0), BAD);
        due("grey(32, 1, 0)", x.grey(32, 1, 0), BAD);
        due("grey(1, 32, 0)", x.grey(1, 32, 0), BAD);
        due("grey(-1, 1, 0)", x.grey(-1, 1, 0), BAD);
        due("grey(1, -1, 0)", x.grey(1, -1, 0), BAD);
        due("grey(1, -2, 0)", x.grey(1, -2, 0), BAD);
        due("grey(0, 1, -1)", x.grey(0, 1, -1), BAD);
        due("grey(0, 1, 2)", x.grey(0, 1, 2), BAD);
        due("grey(0, 1, 0) of no TASKS", new WindowDesk().grey(0, 1, 0), BAD);
        due("grey(0, 0, 0) of no TASKS", new WindowDesk().grey(0, 0, 0), BAD);
        due("grey(0, 2, 0) of one TASK", Check.told("t0 9 1 1;").grey(0, 2, 0), BAD);
    }

    private void greyWhich() {
        sentence = "the greatest WRAP of the first with one TASK of the second; which one (of several the lowest)";
        WindowDesk x = Check.told("c1;t0 9 2 1;t0 9 3 1;t0 9 3 1;t0 9 1 1;t9 12 1 1;");
        due("grey(1, 14, 0)", x.grey(1, 14, 0), 5);
        due("grey(1, 14, 1), 1 and 2 alike", x.grey(1, 14, 1), 1);
        due("grey(1, 12, 1)", x.grey(1, 12, 1), 2);
        due("grey(1, 8, 0)", x.grey(1, 8, 0), 3);
        due("grey(1, 8, 1)", x.grey(1, 8, 1), 3);
        // With the last in the first set all are alike, for it is more alone.
        due("grey(16, 14, 0)", x.grey(16, 14, 0), 10);
        due("grey(16, 14, 1)", x.grey(16, 14, 1), 1);
        due("grey(16, 12, 1)", x.grey(16, 12, 1), 2);
        due("grey(1, 30, 1)", x.grey(1, 30, 1), 4);
        due("grey(1, 30, 0)", x.grey(1, 30, 0), 10);
    }

    // ---- spans

    private void heavy() {
        sentence = "HEAVY: the span a to b by which LEAST of all .. is most above ..; NONE (none is above)";
        String[] texts = {
            // None is above: no task, just as much as there is room for.
            "", "t0 1 1 3;", "c1;t0 2 1 1;t0 2 1 1;", "c1;t0 9 9 1;t9 16 7 1;", "c2;t15 16 1 1;t15 16 1 1;",
            // The first and the last span, and all of them.
            "c1;t0 1 1 1;t0 1 1 1;", "c1;t15 16 1 1;t15 16 1 1;", "c1;t0 1 1 1;t0 9 9 1;t9 16 7 1;t15 16 1 1;",
            // The most above.
            "c1;t0 3 3 1;t0 3 3 1;", "c1;t0 1 1 1;t0 1 1 1;t5 6 1 1;t5 6 1 1;t5 6 1 1;",
            // Of several the first: by a, then by b.
            "c1;t0 1 1 1;t0 1 1 1;t5 6 1 1;t5 6 1 1;", "c1;t0 2 2 1;t0 1 1 1;", "c1;t1 5 3 1;t1 5 3 1;",
            // A task that can be elsewhere takes 0, not less.
            "c1;t0 1 1 1;t0 1 1 1;t9 16 2 1;t9 16 2 1;", "c1;t15 16 1 1;t15 16 1 1;t0 6 2 1;t0 6 2 1;"};
        int[] want = {NONE, NONE, NONE, NONE, NONE, 1, 1516, 16, 3, 506, 1, 1, 105, 1, 1516};
        for (int k = 0; k < texts.length; k++) {
            due("count(5) of " + texts[k], Check.told(texts[k]).count(5), want[k]);
        }
    }

    // ---- odds

    private void dueOdds(String text, int x, int upper, int lower) {
        WindowDesk desk = Check.told(text);
        due("odds(" + x + ", 0) of " + text, desk.odds(x, 0), upper);
        due("odds(" + x + ", 1) of " + text, desk.odds(x, 1), lower);
    }

    private void oddsNumbers() {
        sentence = "13: ODDS by x (0 .. 10): upper (what = 0), lower number (1). BAD.";
        for (int tasks = 0; tasks < 2; tasks++) {
            WindowDesk x = Check.told(tasks == 0 ? "" : "t0 9 1 1;");
            for (int by = 0; by <= 10; by++) {
                due("odds(" + by + ", 0)", x.odds(by, 0), 1);
                due("odds(" + by + ", 1)", x.odds(by, 1), 1);
            }
            due("odds(-1, 0)", x.odds(-1, 0), BAD);
            due("odds(11, 0)", x.odds(11, 0), BAD);
            due("odds(0, -1)", x.odds(0, -1), BAD);
            due("odds(0, 2)", x.odds(0, 2), BAD);
            due("odds(11, 2)", x.odds(11, 2), BAD);
        }
    }

    private void oddsLeastTerms() {
        sentence = "13: in least terms";
        String tight = "c5;t0 1 1 1;t0 1 1 1;t0 1 1 1;t0 1 1 1;t0 1 1 1;";
        dueOdds(tight, 0, 1, 1);
        dueOdds(tight, 1, 59049, 100000);
        dueOdds(tight, 2, 1024, 3125);
        dueOdds(tight, 5, 1, 32);
        dueOdds(tight, 9, 1, 100000);
        dueOdds(tight, 10, 0, 1);
        String one = "c1;t0 1 1 1;t0 1 1 1;";
        dueOdds(one, 0, 0, 1);
        dueOdds(one, 3, 0, 1);
        dueOdds(one, 10, 0, 1);
        dueOdds("c3;t0 1 1 2;t0 1 1 1;", 4, 9, 25);
        dueOdds("c4;t0 1 1 2;t0 1 1 1;", 4, 21, 25);
        dueOdds("c5;t0 1 1 2;t0 1 1 1;", 4, 1, 1);
    }

    private void needGrowsToRoom() {
        sentence = "NEED of each TASK grows by 1 (THE ROOM at most)";
        dueOdds("c1;t0 9 1 1;", 10, 1, 1);
        dueOdds("c9;t0 9 9 9;", 10, 1, 1);
        dueOdds("c1;" + FIVE, 10, 1, 1);
        // 9 becomes 10, if there is room.
        dueOdds("c19;t0 1 1 9;t0 1 1 9;", 10, 0, 1);
        dueOdds("c20;t0 1 1 9;t0 1 1 9;", 10, 1, 1);
        dueOdds("c10;t0 2 1 9;t0 2 1 9;", 10, 1, 1);
    }

    // ---- images, counts

    private void imageNumbers() {
        sentence = "IMAGES 0, 1. BAD; STATE: none was kept";
        WindowDesk x = new WindowDesk();
        due("keep(-1)", x.keep(-1), BAD);
        due("keep(2)", x.keep(2), BAD);
        due("back(-1)", x.back(-1), BAD);
        due("back(2)", x.back(2), BAD);
        due("back(0)", x.back(0), STATE);
        due("back(1)", x.back(1), STATE);
        due("keep(0) of no TASKS", x.keep(0), 0);
        due("back(0) of no TASKS", x.back(0), 0);
        due("back(1)", x.back(1), STATE);
        x = Check.told(FIVE);
        due("back(0)", x.back(0), STATE);
        due("keep(1)", x.keep(1), 5);
        due("back(0)", x.back(0), STATE);
        due("back(1)", x.back(1), 5);
        due("back(1) again", x.back(1), 5);
        due("keep(0)", x.keep(0), 5);
        due("back(0)", x.back(0), 5);
        due("keep(-1)", x.keep(-1), BAD);
        due("keep(2)", x.keep(2), BAD);
        due("back(-1)", x.back(-1), BAD);
        due("back(2)", x.back(2), BAD);
    }

    private void imagesKeep() {
        sentence = "IMAGES keep windows, WHY; nothing else (nothing can be UNDONE behind back())";
        WindowDesk x = Check.told("c1;t0 4 2 1;t1 4 2 1;t0 10 3 1;");
        x.tightens(1);
        due("keep(0)", x.keep(0), 3);
        due("count(8): keep() loses nothing", x.count(8), 1);
        due("puts(2, 0, 5)", x.puts(2, 0, 5), 4);
        due("puts(2, 1, 9)", x.puts(2, 1, 9), 10);
        due("keep(1)", x.keep(1), 3);
        Check.typeAll(x, "t1");
        due("back(0)", x.back(0), 3);
        due("task(2, 0)", x.task(2, 0), 4);
        due("task(2, 1)", x.task(2, 1), 10);
        due("why(2, 0, 0)", x.why(2, 0, 0), 1);
        due("why(2, 0, 1)", x.why(2, 0, 1), 3);
        due("count(8)", x.count(8), 0);
        due("undo()", x.undo(), STATE);
        due("count(7): the text stays", x.count(7), 2);
        due("puts(2, 0, 6)", x.puts(2, 0, 6), 4);
        due("count(8)", x.count(8), 1);
        due("undo()", x.undo(), 0);
        due("task(2, 0)", x.task(2, 0), 4);
        due("back(1)", x.back(1), 3);
        due("task(2, 0)", x.task(2, 0), 5);
        due("task(2, 1)", x.task(2, 1), 9);
        due("why(2, 0, 0)", x.why(2, 0, 0), NONE);
        due("why(0, 1, 0)", x.why(0, 1, 0), 1);
        // Back to what is there already: nothing can be undone all the same.
        x.puts(2, 0, 6);
        x.keep(0);
        due("back(0)", x.back(0), 3);
        due("count(8)", x.count(8), 0);
        due("task(2, 0)", x.task(2, 0), 6);
    }

    private void countNumbers() {
        sentence = "16: 0 TASKS .. 8. BAD.";
        WindowDesk x = new WindowDesk();
        int[] empty = {0, 3, 0, 1, 0, NONE, 0, 0, 0};
        for (int what = 0; what < empty.length; what++) {
            due("count(" + what + ") of no TASKS", x.count(what), empty[what]);
        }
        due("count(-1)", x.count(-1), BAD);
        due("count(9)", x.count(9), BAD);
        String most = "t0 9 9 9;";
        x = Check.told("c20;" + most + most + most + most + most);
        Check.typeAll(x, " ".repeat(100));
        x.tightens(0);
        int[] full = {5, 20, 1, 0, NONE, 9, 405, 100, 1};
        for (int what = 0; what < full.length; what++) {
            due("count(" + what + ") of five", x.count(what), full[what]);
        }
        due("count(-1)", x.count(-1), BAD);
        due("count(9)", x.count(9), BAD);
    }

    private void lastCalls() {
        sentence = "An object is used for at most 512 calls";
        WindowDesk x = new WindowDesk();
        String text = "c1;t0 2 2 1;t0 16 3 1;";
        Check.typeAll(x, text);
        due("desk()", x.desk(), 3);
        int calls = text.length() + 1;
        while (calls + 4 <= 508) {
            due("puts, call " + calls, x.puts(1, 0, 1), 0);
            due("tightens, call " + calls, x.tightens(calls % 8 == 3 ? 0 : 4), 1);
            due("undo, call " + calls, x.undo(), 1);
            due("undo, call " + calls, x.undo(), 0);
            calls += 4;
        }
        while (calls < 511) {
            due("count(3), call " + calls, x.count(3), 12);
            calls++;
        }
        due("count(8), the last call", x.count(8), 0);
    }

    public static void main(String[] args) {
        AsksBoundsTest test = new AsksBoundsTest();
        test.roomAtEachTime();
        test.withinWindows();
        test.atMost9999();
        test.asksOfOneObject();
        test.firstSchedule();
        test.belonging();
        test.shortest();
        test.nothingIsChanged();
        test.taskNumbers();
        test.wrapSets();
        test.wrapGreatest();
        test.greySets();
        test.greyWhich();
        test.heavy();
        test.oddsNumbers();
        test.oddsLeastTerms();
        test.needGrowsToRoom();
        test.imageNumbers();
        test.imagesKeep();
        test.countNumbers();
        test.lastCalls();
        test.check.end();
    }
}
