/** Rules, why, puts, undo: for each sentence that names a bound, what lies on it and just beyond it. */
public final class RulesBoundsTest {
    private static final int BAD = -1, STATE = -2, NONE = -9;
    private static final int MUST = 0, EDGE = 1, FIRST = 2, SPAN = 3, ALL = 4;

    private final Check check = new Check();
    private String sentence = "";
    private WindowDesk x;
    private String told = "";

    private void due(String call, int got, int want) {
        check.due("'" + sentence + "' " + told + " " + call, got, want);
    }

    /** Tells a text and lets a rule tighten. */
    private void rule(String text, int rule, int changed) {
        told = text;
        x = Check.told(text);
        due("tightens(" + rule + ")", x.tightens(rule), changed);
    }

    private void window(int i, int early, int late) {
        due("task(" + i + ", 0)", x.task(i, 0), early);
        due("task(" + i + ", 1)", x.task(i, 1), late);
    }

    private void why(int i, int side, int rule, int by) {
        due("why(" + i + ", " + side + ", 0)", x.why(i, side, 0), rule);
        due("why(" + i + ", " + side + ", 1)", x.why(i, side, 1), by);
    }

    private void broken(int want) {
        due("count(2)", x.count(2), want);
    }

    // ---- MUST

    private void mustRun() {
        sentence = "MUST run at times START to DONE less 1 (if START is below DONE)";
        String[] texts = {"t5 9 2 3;", "t5 8 2 3;", "t5 7 2 3;", "t0 1 1 3;", "t15 16 1 3;", "t7 16 9 3;", "t0 16 9 3;",
            "t0 16 8 3;"};
        int[] from = {0, 6, 5, 0, 15, 7, 7, 0};
        int[] to = {0, 7, 7, 1, 16, 16, 9, 0};
        for (int k = 0; k < texts.length; k++) {
            told = texts[k];
            x = Check.told(told);
            for (int time = 0; time < 16; time++) {
                due("must(" + time + ")", x.must(time), time >= from[k] && time < to[k] ? 3 : 0);
            }
        }
    }

    private void mustTimes() {
        sentence = "7: at a time (0 .. 15)";
        told = "";
        x = new WindowDesk();
        due("must(0)", x.must(0), 0);
        due("must(15)", x.must(15), 0);
        due("must(-1)", x.must(-1), BAD);
        due("must(16)", x.must(16), BAD);
        told = "c20;t0 9 9 9;t7 16 9 9;";
        x = Check.told(told);
        due("must(0)", x.must(0), 9);
        due("must(6)", x.must(6), 9);
        due("must(7)", x.must(7), 18);
        due("must(8)", x.must(8), 18);
        due("must(15)", x.must(15), 9);
        due("must(-1)", x.must(-1), BAD);
        due("must(16)", x.must(16), BAD);
    }

    private void shut() {
        sentence = "SHUT, if NEEDS of others that MUST run then, and its own, are above THE ROOM";
        rule("c3;t0 2 2 2;t0 9 1 1;", MUST, 0);
        rule("c3;t0 2 2 2;t0 9 1 2;", MUST, 1);
        window(1, 2, 9);
        why(1, 0, MUST, 0);
        rule("c4;t0 2 2 2;t0 9 1 2;", MUST, 0);
        // Two others together.
        rule("c3;t0 2 2 1;t0 2 2 1;t0 9 1 1;", MUST, 0);
        rule("c3;t0 2 2 1;t0 2 2 1;t0 9 1 2;", MUST, 1);
        window(2, 2, 9);
        // Its own NEED counts once, though it MUST run there.
        rule("c3;t0 2 2 3;", MUST, 0);
        rule("c3;t0 2 2 1;t0 2 2 2;", MUST, 0);
    }

    private void leastBeginning() {
        sentence = "the least one from EARLY on from which LONG times side by side are not SHUT";
        rule("t3 4 1 3;t0 16 3 1;", MUST, 0);
        rule("t3 4 1 3;t0 16 4 1;", MUST, 1);
        window(1, 4, 16);
        // Two holes that are too short, then one.
        rule("t2 3 1 3;t5 6 1 3;t0 16 3 1;", MUST, 1);
        window(2, 6, 16);
        rule("t2 3 1 3;t5 6 1 3;t0 16 2 1;", MUST, 0);
        rule("t2 3 1 3;t5 6 1 3;t1 16 2 1;", MUST, 1);
        window(2, 3, 16);
    }

    private void doneByLate() {
        sentence = "DONE by LATE";
        rule("t3 4 1 3;t0 8 4 1;", MUST, 1);
        window(1, 4, 8);
        broken(0);
        // Too short by 1: the second must run at 3 as well, and neither finds a place.
        rule("t3 4 1 3;t0 7 4 1;", MUST, 2);
        window(0, 4, 4);
        window(1, 4, 7);
        broken(1);
        rule("t14 15 1 3;t8 16 7 1;", MUST, 2);
        window(0, 15, 15);
        window(1, 10, 16);
        broken(1);
    }

    // ---- EDGE

    private void edgeAbove() {
        sentence = "1 EDGE: if ENERGY of all is above THE ROOM times ..";
        rule("c1;t0 4 2 1;t0 9 2 1;", EDGE, 0);
        rule("c1;t0 4 2 1;t0 9 3 1;", EDGE, 1);
        window(1, 2, 9);
        why(1, 0, EDGE, 1);
    }

    private void edgeLesserEarly() {
        sentence = "LATE of the set less the lesser of EARLY of the set, of the TASK";
        rule("c1;t2 5 3 1;t0 9 2 1;", EDGE, 0);
        rule("c1;t2 5 3 1;t0 9 3 1;", EDGE, 1);
        window(1, 5, 9);
        rule("c1;t0 5 3 1;t2 9 2 1;", EDGE, 0);
        rule("c1;t0 5 3 1;t2 9 3 1;", EDGE, 1);
        window(1, 3, 9);
    }

    private void edgeRest() {
        sentence = "if REST is above 0";
        rule("c2;t1 3 2 1;t0 9 5 1;", EDGE, 0);
        rule("c2;t1 4 2 2;t0 12 5 1;", EDGE, 1);
        window(1, 2, 12);
    }

    private void edgeCutUp() {
        sentence = "REST by NEED of the TASK (cut up)";
        // REST 1, 3 by 2.
        rule("c3;t1 4 2 2;t0 12 5 2;", EDGE, 1);
        window(1, 2, 12);
        rule("c3;t1 4 3 2;t0 12 5 2;", EDGE, 1);
        window(1, 3, 12);
        // REST 2 by 2 is just 1.
        rule("c4;t1 3 2 3;t0 12 4 2;", EDGE, 1);
        window(1, 2, 12);
    }

    private void edgeParts() {
        sentence = "for each part of the set (not empty)";
        // Both together tell 4, the second alone 5; but alone it has no reason: the set is 3.
        rule("c1;t0 6 2 1;t3 5 2 1;t0 12 3 1;", EDGE, 2);
        window(2, 5, 12);
        why(2, 0, EDGE, 3);
        window(0, 0, 3);
        why(0, 1, EDGE, 2);
    }

    // ---- FIRST

    private void firstEarly() {
        sentence = "2 FIRST: if EARLY of the set is no more than that of the TASK";
        rule("c1;t0 5 3 1;t0 16 3 1;", FIRST, 1);
        window(1, 3, 16);
        why(1, 0, FIRST, 1);
        rule("c1;t0 5 3 1;t1 16 2 1;", FIRST, 1);
        window(1, 3, 16);
        rule("c1;t1 6 3 1;t0 16 4 1;", FIRST, 0);
    }

    private void firstDone() {
        sentence = "and that below DONE of the set";
        rule("c1;t0 4 3 1;t2 16 2 1;", FIRST, 1);
        window(1, 3, 16);
        rule("c1;t0 4 3 1;t3 16 2 1;", FIRST, 0);
    }

    private void firstAbove() {
        sentence = "are above THE ROOM times (LATE of the set less its EARLY)";
        rule("c1;t0 6 3 1;t1 16 2 1;", FIRST, 0);
        rule("c1;t0 5 3 1;t1 16 2 1;", FIRST, 1);
    }

    private void firstLesser() {
        sentence = "the lesser of its DONE, LATE of the set";
        rule("c2;t0 5 2 2;t1 16 9 1;", FIRST, 0);
        rule("c2;t0 5 3 2;t1 16 9 1;", FIRST, 1);
        window(1, 3, 16);
    }

    private void firstLeastDone() {
        sentence = "EARLY is DONE of the set at least (DONE the least of its TASKS)";
        rule("c1;t0 5 1 1;t0 5 2 1;t0 16 3 1;", FIRST, 1);
        window(2, 1, 16);
        why(2, 0, FIRST, 3);
    }

    // ---- SPAN

    private void spanFree() {
        sentence = "3 SPAN: if FREE is 0 or more";
        // From 5 to 7 and from 5 to 8 FREE is below 0, and tells nothing; from 5 to 9 it is 0.
        rule("c1;t5 7 2 1;t5 7 2 1;t0 16 6 1;", SPAN, 3);
        window(2, 9, 16);
        why(2, 0, SPAN, 509);
        broken(1);
    }

    private void spanAbove() {
        sentence = "is above FREE";
        rule("c1;t2 4 2 1;t0 16 2 1;", SPAN, 0);
        rule("c1;t2 4 2 1;t0 16 3 1;", SPAN, 1);
        window(1, 4, 16);
        why(1, 0, SPAN, 204);
    }

    private void spanCut() {
        sentence = "EARLY is b less FREE by NEED (cut) at least";
        // From 2 to 5 FREE is 3, by 2 is 1.
        rule("c3;t2 5 3 2;t0 16 4 2;", SPAN, 1);
        window(1, 4, 16);
        why(1, 0, SPAN, 205);
    }

    private void spanEnds() {
        sentence = "from a to b (0 .. 16, a below b)";
        rule("c1;t0 9 9 1;t0 16 7 1;", SPAN, 1);
        window(1, 9, 16);
        why(1, 0, SPAN, 9);
        rule("c1;t15 16 1 1;t15 16 1 1;", SPAN, 2);
        window(0, 16, 16);
        window(1, 16, 16);
        why(0, 0, SPAN, 1516);
        rule("c1;t0 1 1 1;t0 1 1 1;", SPAN, 2);
        window(0, 1, 1);
        why(0, 0, SPAN, 1);
        // As time runs there: from 0 to 9 again.
        rule("c1;t7 16 9 1;t0 16 7 1;", SPAN, 1);
        window(1, 0, 7);
        why(1, 1, SPAN, 9);
    }

    private void spanLeast() {
        sentence = "LEAST of a TASK: .. (0, if that is below 0)";
        // The third can be out of any span that the others fill, and takes nothing away there.
        rule("c1;t0 2 2 1;t0 16 1 1;t4 8 2 1;", SPAN, 1);
        window(1, 2, 16);
        window(2, 4, 8);
        why(1, 0, SPAN, 2);
    }

    // ---- all rules

    private void neverEarlier() {
        sentence = "make EARLY of TASKS later (never earlier)";
        for (int rule = 0; rule <= ALL; rule++) {
            rule("c2;t5 9 2 1;t0 16 1 1;", rule, 0);
            window(0, 5, 9);
            window(1, 0, 16);
            why(0, 0, NONE, NONE);
            why(0, 1, NONE, NONE);
        }
        // EDGE tells 2 of a task that is at 3 already.
        rule("c1;t0 4 2 1;t3 9 3 1;", EDGE, 0);
        window(1, 3, 9);
        why(1, 0, NONE, NONE);
    }

    private void allAtOnce() {
        sentence = "all at once by windows as they are";
        // The second moves from 0 to 1 and must run at 2 then; the third is told by what was, and stays.
        rule("c1;t0 1 1 1;t0 4 2 1;t2 9 1 1;", MUST, 1);
        window(1, 1, 4);
        window(2, 2, 9);
        due("tightens(0) again", x.tightens(MUST), 1);
        window(2, 3, 9);
        // In the other order of tasks as well.
        rule("c1;t2 9 1 1;t0 4 2 1;t0 1 1 1;", MUST, 1);
        window(1, 1, 4);
        window(0, 2, 9);
    }

    private void lateByNewEarly() {
        sentence = "then LATE likewise, .. by windows with the new EARLY";
        rule("c2;t2 5 2 2;t0 8 4 1;", MUST, 2);
        window(1, 4, 8);
        window(0, 2, 4);
        why(0, 1, MUST, 0);
    }

    private void lateStays() {
        sentence = "but if it is BROKEN by now, LATE stay";
        // LATE of the second becomes 14, but not where the third and the fourth break.
        rule("c1;t13 16 2 1;t5 15 2 1;", MUST, 1);
        window(1, 5, 14);
        rule("c1;t13 16 2 1;t5 15 2 1;t0 1 1 1;t0 1 1 1;", MUST, 2);
        window(1, 5, 15);
        window(2, 1, 1);
        broken(1);
        for (int i = 0; i < 4; i++) {
            why(i, 1, NONE, NONE);
        }
    }

    private void lateBreaks() {
        sentence = "LATE likewise: START and 1, as if time ran the other way";
        rule("c1;t1 3 2 1;t0 2 1 1;", MUST, 1);
        window(1, 0, 1);
        broken(0);
        // The new EARLY leave room to each; then both must run at 2, and LATE is EARLY and LONG less 1.
        rule("c1;t0 1 1 1;t0 3 2 1;t1 3 1 1;", MUST, 4);
        window(0, 0, 1);
        window(1, 1, 2);
        window(2, 2, 2);
        why(1, 1, MUST, 0);
        broken(1);
    }

    private void greatestNumber() {
        sentence = "EARLY, told by a RULE, of several numbers is the greatest";
        rule("c1;t0 2 2 1;t0 5 3 1;t0 12 4 1;", EDGE, 2);
        window(2, 5, 12);
        why(2, 0, EDGE, 3);
        window(1, 2, 5);
        why(1, 0, EDGE, 1);
    }

    private void startAndOne() {
        sentence = "if it leaves the TASK no room, it is START and 1, and it is BROKEN";
        // EDGE tells 9 of the second; its START is 6: just allowed would be 6.
        rule("c1;t0 9 9 1;t0 8 2 1;", EDGE, 2);
        window(1, 7, 8);
        broken(1);
        why(1, 0, EDGE, 1);
        // What is told is START: room is left.
        rule("c1;t0 4 4 1;t0 6 2 1;", EDGE, 1);
        window(1, 4, 6);
        broken(0);
        rule("c1;t0 4 4 1;t0 5 2 1;", EDGE, 2);
        window(0, 1, 4);
        window(1, 4, 5);
        broken(1);
        rule("c1;t0 5 3 1;t1 4 2 1;", FIRST, 1);
        window(1, 3, 4);
        broken(1);
        rule("c1;t0 5 3 1;t1 5 2 1;", FIRST, 2);
        window(0, 0, 3);
        window(1, 3, 5);
        broken(0);
        rule("c1;t0 9 9 1;t5 8 1 1;", FIRST, 1);
        window(1, 8, 8);
        broken(1);
    }

    private void brokenIsAbove() {
        sentence = "BROKEN: a TASK has DONE above LATE";
        told = "t3 7 4 1;";
        x = Check.told(told);
        broken(0);
        told = "t0 16 9 1;";
        x = Check.told(told);
        x.puts(0, 0, 7);
        broken(0);
        // One is enough, whichever it is.
        rule("c1;t5 8 1 1;t0 9 9 1;", FIRST, 1);
        window(0, 8, 8);
        broken(1);
        due("tightens(0)", x.tightens(MUST), STATE);
        due("puts(0, 1, 7)", x.puts(0, 1, 7), STATE);
        rule("c1;t0 9 9 1;t9 16 1 1;t9 16 1 1;t9 16 1 1;t5 8 1 1;", FIRST, 1);
        window(4, 8, 8);
        why(4, 0, FIRST, 1);
        broken(1);
        rule("c1;t0 1 1 1;t0 1 1 1;t0 16 1 1;", MUST, 3);
        window(0, 1, 1);
        broken(1);
        due("task(0, 4)", x.task(0, 4), 0);
        due("task(2, 4)", x.task(2, 4), 0);
        due("task(2, 5)", x.task(2, 5), NONE);
        due("count(3)", x.count(3), 0);
        due("count(4)", x.count(4), NONE);
        due("odds(0, 0)", x.odds(0, 0), 0);
        due("odds(0, 1)", x.odds(0, 1), 1);
    }

    private void tightensNumbers() {
        sentence = "8: A RULE (0 to 3; 4: ALL). BAD; STATE: it is BROKEN";
        told = "c1;t0 1 1 1;t0 1 1 1;";
        x = Check.told(told);
        due("tightens(-1)", x.tightens(-1), BAD);
        due("tightens(5)", x.tightens(5), BAD);
        due("count(8)", x.count(8), 0);
        due("tightens(0)", x.tightens(MUST), 2);
        for (int rule = 0; rule <= ALL; rule++) {
            due("tightens(" + rule + "), broken", x.tightens(rule), STATE);
        }
        due("tightens(-1), broken", x.tightens(-1), BAD);
        due("tightens(5), broken", x.tightens(5), BAD);
        due("count(8)", x.count(8), 1);
        told = "";
        x = new WindowDesk();
        for (int rule = 0; rule <= ALL; rule++) {
            due("tightens(" + rule + ") of no TASKS", x.tightens(rule), 0);
            due("count(8)", x.count(8), rule + 1);
        }
    }

    private void allRules() {
        sentence = "ALL: 0, 1, 2, 3, 0, .. till none changes anything, or it is BROKEN";
        String[] texts = {"c1;t0 4 2 1;t1 4 2 1;t0 10 3 1;", "c1;t0 4 2 1;t1 4 2 1;t0 10 3 1;t3 12 4 1;t2 16 1 1;",
            "c2;t0 4 3 1;t0 4 3 1;t0 10 4 1;t0 16 9 2;", "c1;t0 1 1 1;t0 1 1 1;t0 9 1 1;", "c1;t0 6 3 1;t1 6 2 1;t0 6 2 1;",
            "c3;t0 5 3 2;t1 6 4 2;t2 9 3 1;t0 12 4 3;t4 16 5 2;", "c1;t0 5 3 1;t1 16 2 1;t2 9 4 1;t0 16 7 1;", "t0 9 1 1;",
            // SPAN alone changes something, four times; the other three rules nothing between; and turned round.
            "c2;t0 7 2 2;t3 11 3 2;t4 9 2 1;t2 8 3 1;", "c2;t9 16 2 2;t5 13 3 2;t7 12 2 1;t8 14 3 1;",
            // SPAN, EDGE, SPAN and MUST, each for one side; SPAN, MUST, SPAN, which breaks.
            "c3;t0 8 4 1;t3 10 3 3;t4 7 1 1;t3 12 1 3;", "c2;t1 9 2 2;t0 9 4 1;t1 5 1 2;t2 8 3 2;"};
        for (String text : texts) {
            told = text;
            x = Check.told(text);
            WindowDesk y = Check.told(text);
            int idle = 0;
            for (int turn = 0; idle < 4 && y.count(2) == 0; turn++) {
                idle = y.tightens(turn % 4) == 0 ? idle + 1 : 0;
            }
            int others = 0;
            int all = x.tightens(ALL);
            for (int i = 0; i < x.count(0); i++) {
                WindowDesk z = Check.told(text);
                for (int side = 0; side < 2; side++) {
                    due("task(" + i + ", " + side + ")", x.task(i, side), y.task(i, side));
                    why(i, side, y.why(i, side, 0), y.why(i, side, 1));
                    others += x.task(i, side) != z.task(i, side) ? 1 : 0;
                }
            }
            due("tightens(4): how many are others in the end", all, others);
            due("count(8): it is one thing that is done", x.count(8), 1);
            due("tightens(4) again", x.tightens(ALL), x.count(2) == 1 ? STATE : 0);
        }
    }

    private void countedOnce() {
        sentence = "8: how many of EARLY, LATE are others then (of several RULES: in the end)";
        // LATE of the first, EARLY of the second, EARLY of the third.
        rule("c1;t0 4 2 1;t1 4 2 1;t0 10 3 1;", ALL, 3);
        // EARLY of the fourth moves by MUST to 1 and by EDGE to 5: that is one.
        rule("c1;t0 1 1 1;t1 5 2 1;t1 5 2 1;t0 12 3 1;", ALL, 1);
        window(3, 5, 12);
        why(3, 0, EDGE, 6);
    }

    // ---- WHY

    private void whyLast() {
        sentence = "WHY: which RULE told it last (NONE: none since it was told, put)";
        rule("c1;t0 1 1 1;t1 5 2 1;t1 5 2 1;t0 12 3 1;", MUST, 1);
        why(3, 0, MUST, 0);
        due("tightens(1)", x.tightens(EDGE), 1);
        why(3, 0, EDGE, 6);
        // A rule that changes nothing has told nothing.
        due("tightens(3)", x.tightens(SPAN), 0);
        why(3, 0, EDGE, 6);
        due("puts(3, 1, 11)", x.puts(3, 1, 11), 12);
        why(3, 0, EDGE, 6);
        due("puts(3, 0, 6)", x.puts(3, 0, 6), 5);
        why(3, 0, NONE, NONE);
        due("undo(), puts EARLY", x.undo(), 4);
        why(3, 0, EDGE, 6);
        due("undo(), puts LATE", x.undo(), 3);
        due("undo(), SPAN", x.undo(), 2);
        why(3, 0, EDGE, 6);
        due("undo(), EDGE", x.undo(), 1);
        why(3, 0, MUST, 0);
        due("undo(), MUST", x.undo(), 0);
        why(3, 0, NONE, NONE);
        due("undo()", x.undo(), STATE);
    }

    private void whyLeast() {
        sentence = "of those that told the greatest number the one that is the least number, bits";
        // The long one alone tells 5, with the short one too: 1 and 3, 2 and 3.
        rule("c1;t2 5 3 1;t0 2 1 1;t0 12 4 1;", EDGE, 1);
        window(2, 5, 12);
        why(2, 0, EDGE, 1);
        rule("c1;t0 2 1 1;t2 5 3 1;t0 12 4 1;", EDGE, 1);
        window(2, 5, 12);
        why(2, 0, EDGE, 2);
        // The first, the second and both tell 3 of the third.
        rule("c2;t0 4 3 2;t0 4 3 2;t0 9 2 2;", FIRST, 3);
        window(2, 3, 9);
        why(2, 0, FIRST, 1);
        why(0, 0, FIRST, 2);
        why(1, 0, FIRST, 1);
        // Spans: from 0 to 4, from 1 to 4 and so on all tell 4.
        rule("c1;t0 4 4 1;t0 16 4 1;", SPAN, 1);
        why(1, 0, SPAN, 4);
    }

    private void whyNumbers() {
        sentence = "6: WHY of EARLY (side = 0), LATE (1): the RULE (what = 0; NONE), the set, span (1; NONE). BAD.";
        told = "five tasks";
        x = Check.told("t0 9 1 1;t1 9 1 1;t2 9 1 1;t3 9 1 1;t4 9 1 1;");
        for (int i = 0; i < 5; i++) {
            why(i, 0, NONE, NONE);
            why(i, 1, NONE, NONE);
        }
        due("why(-1, 0, 0)", x.why(-1, 0, 0), BAD);
        due("why(5, 0, 0)", x.why(5, 0, 0), BAD);
        due("why(0, -1, 0)", x.why(0, -1, 0), BAD);
        due("why(0, 2, 0)", x.why(0, 2, 0), BAD);
        due("why(0, 0, -1)", x.why(0, 0, -1), BAD);
        due("why(0, 0, 2)", x.why(0, 0, 2), BAD);
        due("why(0, 0, 0) of no TASKS", new WindowDesk().why(0, 0, 0), BAD);
    }

    // ---- PUT, UNDONE

    private void putLater() {
        sentence = "9: it would not be later (earlier)";
        told = "t4 12 3 1;";
        x = Check.told(told);
        due("puts(0, 0, 4)", x.puts(0, 0, 4), STATE);
        due("puts(0, 0, 3)", x.puts(0, 0, 3), STATE);
        due("puts(0, 0, 0)", x.puts(0, 0, 0), STATE);
        due("puts(0, 1, 12)", x.puts(0, 1, 12), STATE);
        due("puts(0, 1, 13)", x.puts(0, 1, 13), STATE);
        due("puts(0, 1, 16)", x.puts(0, 1, 16), STATE);
        window(0, 4, 12);
        due("count(8)", x.count(8), 0);
        due("puts(0, 0, 5)", x.puts(0, 0, 5), 4);
        due("puts(0, 1, 11)", x.puts(0, 1, 11), 12);
        window(0, 5, 11);
        due("count(8)", x.count(8), 2);
    }

    private void putWithRoom() {
        sentence = "9: there would be no room";
        told = "t4 12 3 1;";
        x = Check.told(told);
        due("puts(0, 0, 10)", x.puts(0, 0, 10), STATE);
        due("puts(0, 0, 16)", x.puts(0, 0, 16), STATE);
        due("puts(0, 1, 6)", x.puts(0, 1, 6), STATE);
        due("puts(0, 1, 0)", x.puts(0, 1, 0), STATE);
        due("count(8)", x.count(8), 0);
        due("puts(0, 0, 9)", x.puts(0, 0, 9), 4);
        window(0, 9, 12);
        x.undo();
        due("puts(0, 1, 7)", x.puts(0, 1, 7), 12);
        window(0, 4, 7);
        broken(0);
        for (int v = 0; v <= 16; v++) {
            due("puts(0, 0, " + v + "), no play", x.puts(0, 0, v), STATE);
            due("puts(0, 1, " + v + "), no play", x.puts(0, 1, v), STATE);
        }
        due("count(8)", x.count(8), 1);
    }

    private void putNumbers() {
        sentence = "9: v (0 .. 16). BAD; STATE";
        told = "t0 16 1 1;";
        x = Check.told(told);
        due("puts(0, 0, -1)", x.puts(0, 0, -1), BAD);
        due("puts(0, 0, 17)", x.puts(0, 0, 17), BAD);
        due("puts(0, 1, -1)", x.puts(0, 1, -1), BAD);
        due("puts(0, 1, 17)", x.puts(0, 1, 17), BAD);
        due("puts(0, -1, 5)", x.puts(0, -1, 5), BAD);
        due("puts(0, 2, 5)", x.puts(0, 2, 5), BAD);
        due("puts(-1, 0, 5)", x.puts(-1, 0, 5), BAD);
        due("puts(1, 0, 5)", x.puts(1, 0, 5), BAD);
        due("puts(0, 0, 0)", x.puts(0, 0, 0), STATE);
        due("puts(0, 1, 16)", x.puts(0, 1, 16), STATE);
        due("puts(0, 0, 15)", x.puts(0, 0, 15), 0);
        x.undo();
        due("puts(0, 1, 1)", x.puts(0, 1, 1), 16);
        window(0, 0, 1);
    }

    private void putBroken() {
        sentence = "9: STATE: it is BROKEN";
        rule("c1;t0 1 1 1;t0 1 1 1;t4 12 3 1;", MUST, 2);
        due("puts(2, 0, 5)", x.puts(2, 0, 5), STATE);
        due("puts(2, 1, 11)", x.puts(2, 1, 11), STATE);
        due("puts(3, 0, 5)", x.puts(3, 0, 5), BAD);
        due("puts(2, 2, 5)", x.puts(2, 2, 5), BAD);
        due("puts(2, 0, 17)", x.puts(2, 0, 17), BAD);
        due("puts(2, 0, -1)", x.puts(2, 0, -1), BAD);
        window(2, 4, 12);
        due("undo()", x.undo(), 0);
        due("puts(2, 0, 5)", x.puts(2, 0, 5), 4);
    }

    private void undoneTen() {
        sentence = "10 are known, older ones are lost";
        for (int many = 1; many <= 15; many++) {
            told = many + " puts";
            x = Check.told("t0 16 1 1;");
            for (int v = 1; v <= many; v++) {
                due("puts(0, 0, " + v + ")", x.puts(0, 0, v), v - 1);
                due("count(8)", x.count(8), Math.min(v, 10));
            }
            int known = Math.min(many, 10);
            for (int k = 1; k <= known; k++) {
                due("undo()", x.undo(), known - k);
                window(0, many - k, 16);
                due("count(8)", x.count(8), known - k);
            }
            due("undo(), none", x.undo(), STATE);
            window(0, many - known, 16);
        }
    }

    private void undoneAgain() {
        sentence = "UNDONE: the latest .. that was not refused";
        told = "t0 16 1 1;";
        x = Check.told(told);
        for (int v = 1; v <= 11; v++) {
            x.puts(0, 0, v);
        }
        due("undo()", x.undo(), 9);
        due("undo()", x.undo(), 8);
        due("puts(0, 1, 15)", x.puts(0, 1, 15), 16);
        due("tightens(4)", x.tightens(ALL), 0);
        due("puts(0, 1, 14)", x.puts(0, 1, 14), 15);
        due("count(8)", x.count(8), 10);
        due("puts(0, 1, 14), refused", x.puts(0, 1, 14), STATE);
        due("tightens(5), refused", x.tightens(5), BAD);
        due("undo()", x.undo(), 9);
        window(0, 9, 15);
        due("undo(), what changed nothing", x.undo(), 8);
        window(0, 9, 15);
        due("undo()", x.undo(), 7);
        window(0, 9, 16);
        for (int left = 6; left >= 0; left--) {
            due("undo()", x.undo(), left);
            window(0, left + 2, 16);
        }
        due("undo()", x.undo(), STATE);
    }

    private void undoneNone() {
        sentence = "10: STATE: none";
        told = "";
        x = new WindowDesk();
        due("undo()", x.undo(), STATE);
        told = "t0 16 1 1;";
        x = Check.told(told);
        due("undo()", x.undo(), STATE);
        x.keep(0);
        x.puts(0, 0, 1);
        x.back(0);
        due("undo() behind back()", x.undo(), STATE);
        x.puts(0, 0, 1);
        Check.typeAll(x, "t0 9 1 1;");
        x.desk();
        due("undo() behind desk()", x.undo(), STATE);
        window(0, 0, 9);
    }

    public static void main(String[] args) {
        RulesBoundsTest test = new RulesBoundsTest();
        test.mustRun();
        test.mustTimes();
        test.shut();
        test.leastBeginning();
        test.doneByLate();
        test.edgeAbove();
        test.edgeLesserEarly();
        test.edgeRest();
        test.edgeCutUp();
        test.edgeParts();
        test.firstEarly();
        test.firstDone();
        test.firstAbove();
        test.firstLesser();
        test.firstLeastDone();
        test.spanFree();
        test.spanAbove();
        test.spanCut();
        test.spanEnds();
        test.spanLeast();
        test.neverEarlier();
        test.allAtOnce();
        test.lateByNewEarly();
        test.lateStays();
        test.lateBreaks();
        test.greatestNumber();
        test.startAndOne();
        test.brokenIsAbove();
        test.tightensNumbers();
        test.allRules();
        test.countedOnce();
        test.whyLast();
        test.whyLeast();
        test.whyNumbers();
        test.putLater();
        test.putWithRoom();
        test.putNumbers();
        test.putBroken();
        test.undoneTen();
        test.undoneAgain();
        test.undoneNone();
        test.check.end();
    }
}
