/** The text: for each sentence of the document that names a bound, the last that is allowed and the first that is not. */
public final class TextBoundsTest {
    private static final int BAD = -1, FULL = -3, NONE = -9;
    private static final String FIVE = "t0 9 1 1;t1 9 1 1;t2 9 1 1;t3 9 1 1;t4 9 1 1;";

    private final Check check = new Check();
    private String sentence = "";

    private void due(String call, int got, int want) {
        check.due("'" + sentence + "' " + call, got, want);
    }

    private void good(String text, int items) {
        WindowDesk x = new WindowDesk();
        Check.typeAll(x, text);
        due("desk() of \"" + text + "\"", x.desk(), items);
        due("count(7) behind it", x.count(7), 0);
    }

    private void fault(String text, int place) {
        WindowDesk x = new WindowDesk();
        Check.typeAll(x, text);
        due("desk() of \"" + text + "\"", x.desk(), -10 - place);
        due("count(7) behind it", x.count(7), text.length());
        due("count(0) behind it", x.count(0), 0);
        due("count(1) behind it", x.count(1), 3);
    }

    /** What a task is, told as the second of two. */
    private void taken(String task, int early, int late, int lasting, int need) {
        WindowDesk x = Check.told("c20;t0 1 1 1;" + task);
        due("count(0) of " + task, x.count(0), 2);
        due("task(1, 0) of " + task, x.task(1, 0), early);
        due("task(1, 1) of " + task, x.task(1, 1), late);
        due("task(1, 2) of " + task, x.task(1, 2), lasting);
        due("task(1, 3) of " + task, x.task(1, 3), need);
    }

    private static String filled(String text, int letters) {
        return text + " ".repeat(letters - text.length());
    }

    private void newObject() {
        sentence = "1: As told; no TASKS.";
        WindowDesk x = new WindowDesk();
        due("count(0)", x.count(0), 0);
        due("count(1)", x.count(1), 3);
        due("count(2)", x.count(2), 0);
        due("count(7)", x.count(7), 0);
        due("count(8)", x.count(8), 0);
        for (int i = -1; i <= 5; i++) {
            due("task(" + i + ", 0)", x.task(i, 0), BAD);
        }
        // Two objects have nothing together.
        WindowDesk y = Check.told("c7;t0 9 1 1;");
        y.type('c');
        due("count(0), another told", x.count(0), 0);
        due("count(1), another told", x.count(1), 3);
        due("count(7), another told", x.count(7), 0);
    }

    private void letters() {
        sentence = "2: A letter (0 .. 255)";
        WindowDesk x = new WindowDesk();
        due("type(-1)", x.type(-1), BAD);
        due("type(256)", x.type(256), BAD);
        due("type(least int)", x.type(Integer.MIN_VALUE), BAD);
        due("type(greatest int)", x.type(Integer.MAX_VALUE), BAD);
        // 256 more than a good letter is not that letter.
        due("type(256 + 'c')", x.type(256 + 'c'), BAD);
        due("count(7)", x.count(7), 0);
        due("type(0)", x.type(0), 1);
        due("type(255)", x.type(255), 2);
        due("clear()", x.clear(), 2);
        for (int letter = 0; letter < 256; letter++) {
            due("type(" + letter + ")", x.type(letter), 1);
            x.clear();
        }
    }

    private void hundredLetters() {
        sentence = "a text (100 letters at most)";
        WindowDesk x = new WindowDesk();
        String text = "c9;" + FIVE;
        Check.typeAll(x, text);
        for (int has = text.length() + 1; has <= 99; has++) {
            due("type(32)", x.type(32), has);
        }
        due("count(7)", x.count(7), 99);
        due("type(32), the hundredth", x.type(32), 100);
        due("type('x'), the next", x.type('x'), FULL);
        due("type(0), the next", x.type(0), FULL);
        due("type(255), the next", x.type(255), FULL);
        due("type(-1), full", x.type(-1), BAD);
        due("type(256), full", x.type(256), BAD);
        due("count(7), full", x.count(7), 100);
        due("desk(), full", x.desk(), 6);
        due("count(7), read", x.count(7), 0);
        due("type(32), read", x.type(32), 1);
    }

    private void hundredthLetterCounts() {
        sentence = "100 letters at most: the hundredth counts";
        good(" ".repeat(91) + "t0 9 1 1;", 1);
        good(" ".repeat(97) + "c3;", 1);
        fault(" ".repeat(99) + "x", 99);
        fault(" ".repeat(99) + ";", 99);
        fault(" ".repeat(99) + "c", 100);
        fault(" ".repeat(99) + "t", 100);
        fault(filled("c3", 100), 100);
        fault(filled("t0 9 1 1", 100), 100);
        fault(" ".repeat(97) + "c21", 98);
        fault("c".repeat(100), 1);
        fault("c" + "1".repeat(99), 1);
        fault("c" + "0".repeat(99), 1);
        good(" ".repeat(100), 0);
    }

    private void cleared() {
        sentence = "3: THE TEXT is empty: how many letters it had.";
        WindowDesk x = new WindowDesk();
        due("clear(), empty", x.clear(), 0);
        x.type('c');
        due("clear(), one", x.clear(), 1);
        due("clear(), again", x.clear(), 0);
        Check.typeAll(x, " ".repeat(100));
        x.type(' ');
        due("clear(), full", x.clear(), 100);
        due("count(7)", x.count(7), 0);
        // What was cleared is not read.
        Check.typeAll(x, "c5;t0 9 ");
        x.clear();
        Check.typeAll(x, "c4;");
        due("desk()", x.desk(), 1);
        due("count(1)", x.count(1), 4);
        due("count(0)", x.count(0), 0);
    }

    private void clearLeavesTheRest() {
        sentence = "3: nothing but THE TEXT";
        WindowDesk x = Check.told("c5;t0 9 2 4;");
        x.puts(0, 0, 1);
        x.keep(0);
        Check.typeAll(x, "t");
        due("clear()", x.clear(), 1);
        due("count(0)", x.count(0), 1);
        due("count(1)", x.count(1), 5);
        due("task(0, 0)", x.task(0, 0), 1);
        due("count(8)", x.count(8), 1);
        due("back(0)", x.back(0), 1);
    }

    private void emptyText() {
        sentence = "4: THE TEXT tells all anew: an empty one";
        for (String text : new String[] {"", " ", " ".repeat(100)}) {
            WindowDesk x = Check.told("c20;" + FIVE);
            x.puts(0, 0, 1);
            x.keep(0);
            Check.typeAll(x, text);
            due("desk() of " + text.length() + " blanks", x.desk(), 0);
            due("count(0)", x.count(0), 0);
            due("count(1)", x.count(1), 3);
            due("count(3)", x.count(3), 1);
            due("count(4)", x.count(4), 0);
            due("count(5)", x.count(5), NONE);
            due("count(6)", x.count(6), 0);
            due("count(7)", x.count(7), 0);
            due("count(8)", x.count(8), 0);
            due("task(0, 0)", x.task(0, 0), BAD);
            due("wrap(1)", x.wrap(1), BAD);
            due("back(0)", x.back(0), -2);
            due("undo()", x.undo(), -2);
        }
    }

    private void items() {
        sentence = "4: how many ITEMS";
        good("c3;", 1);
        good("t0 9 1 1;", 1);
        good("c3;t0 9 1 1;", 2);
        good(FIVE, 5);
        good("c3;" + FIVE, 6);
        good("c3;" + FIVE + "  ", 6);
    }

    private void fiveTasks() {
        sentence = "TASKS (5 at most); a sixth t";
        WindowDesk x = Check.told(FIVE);
        due("count(0)", x.count(0), 5);
        for (int i = 0; i < 5; i++) {
            due("task(" + i + ", 0)", x.task(i, 0), i);
        }
        due("task(5, 0)", x.task(5, 0), BAD);
        fault(FIVE + "t0 9 1 1;", 45);
        fault("c3;" + FIVE + "t0 9 1 1;", 48);
        fault("c3;" + FIVE + "  t", 50);
        fault(FIVE + "tx", 45);
        fault(FIVE + ";", 45);
        fault(FIVE + "c3;", 45);
    }

    private void early() {
        sentence = "EARLY (0 .. 15)";
        taken("t0 9 2 3;", 0, 9, 2, 3);
        taken("t15 16 1 3;", 15, 16, 1, 3);
        fault("t16 17 1 1;", 1);
        fault("t16 16 1 1;", 1);
        fault("t16", 1);
        fault("t99 99 1 1;", 1);
        fault("t100 99 1 1;", 1);
        fault("t-1 9 1 1;", 1);
    }

    private void late() {
        sentence = "LATE (1 .. 16)";
        taken("t0 1 1 1;", 0, 1, 1, 1);
        taken("t0 16 1 1;", 0, 16, 1, 1);
        fault("t0 0 1 1;", 3);
        fault("t0 17 1 1;", 3);
        fault("t15 17 1 1;", 4);
        fault("t0 100 1 1;", 3);
        fault("t0 +9 1 1;", 3);
    }

    private void lateAboveEarly() {
        sentence = "LATE not above EARLY";
        taken("t7 8 1 1;", 7, 8, 1, 1);
        fault("t7 7 1 1;", 3);
        fault("t7 6 1 1;", 3);
        fault("t7 0 1 1;", 3);
        fault("t15 15 1 1;", 4);
        fault("t15 1 1 1;", 4);
        fault("t7 7", 3);
    }

    private void lasting() {
        sentence = "LONG (1 .. 9)";
        taken("t0 16 1 1;", 0, 16, 1, 1);
        taken("t0 16 9 1;", 0, 16, 9, 1);
        fault("t0 16 0 1;", 6);
        fault("t0 16 10 1;", 6);
        fault("t0 16 16 1;", 6);
        fault("t0 16 10", 6);
    }

    private void lastingWithinWindow() {
        sentence = "EARLY and LONG are LATE at most; LONG above LATE less EARLY";
        taken("t3 7 4 1;", 3, 7, 4, 1);
        taken("t0 9 9 1;", 0, 9, 9, 1);
        taken("t7 16 9 1;", 7, 16, 9, 1);
        fault("t3 7 5 1;", 5);
        fault("t0 8 9 1;", 5);
        fault("t8 16 9 1;", 6);
        fault("t15 16 2 1;", 7);
        fault("t0 1 2 1;", 5);
    }

    private void need() {
        sentence = "NEED (1 .. 9)";
        taken("t0 9 1 1;", 0, 9, 1, 1);
        taken("t0 9 1 9;", 0, 9, 1, 9);
        fault("c20;t0 9 1 0;", 11);
        fault("c20;t0 9 1 10;", 11);
        fault("c20;t0 9 1 20;", 11);
        fault("c20;t0 9 1 10", 11);
    }

    private void needWithinRoom() {
        sentence = "No NEED is more than THE ROOM";
        good("c1;t0 9 1 1;", 2);
        fault("c1;t0 9 1 2;", 10);
        good("c8;t0 9 1 8;", 2);
        fault("c8;t0 9 1 9;", 10);
        good("c9;t0 9 1 9;", 2);
        good("c10;t0 9 1 9;", 2);
        good("t0 9 1 3;", 1);
        fault("t0 9 1 4;", 7);
        fault("c9;t0 9 1 9;t0 9 1 10;", 19);
        // THE ROOM is that of the text, not the one of before.
        WindowDesk x = Check.told("c20;t0 9 1 9;");
        Check.typeAll(x, "t0 9 1 9;");
        due("desk(), the room 20 before", x.desk(), -17);
        x.clear();
        x = Check.told("c1;");
        Check.typeAll(x, "t0 9 1 3;");
        due("desk(), the room 1 before", x.desk(), 1);
        due("count(1)", x.count(1), 3);
    }

    private void room() {
        sentence = "THE ROOM (1 .. 20; 3 at first)";
        for (int room = 1; room <= 20; room++) {
            due("count(1) of c" + room + ";", Check.told("c" + room + ";").count(1), room);
        }
        fault("c0;", 1);
        fault("c21;", 1);
        fault("c99;", 1);
        fault("c100;", 1);
        fault("c-1;", 1);
        fault("c21", 1);
        due("count(1) of a new object", new WindowDesk().count(1), 3);
        due("count(1) of t ..", Check.told("t0 9 1 1;").count(1), 3);
        WindowDesk x = Check.told("c20;");
        Check.typeAll(x, "t0 9 1 1;");
        x.desk();
        due("count(1), not told anew", x.count(1), 3);
    }

    private void roomFirst() {
        sentence = "c N (THE ROOM; the first of all, if it is told); c behind another ITEM";
        good("c4;t0 9 1 4;", 2);
        fault("t0 9 1 1;c4;", 9);
        fault("c4;c4;", 3);
        fault("c4;t0 9 1 4;c4;", 12);
        fault("c4; c", 4);
        fault("cc4;", 1);
        // A text of before is no ITEM of this one.
        WindowDesk x = Check.told("t0 9 1 1;");
        Check.typeAll(x, "c5;");
        due("desk()", x.desk(), 1);
        due("count(1)", x.count(1), 5);
        due("count(0)", x.count(0), 0);
    }

    private void blanks() {
        sentence = "blanks (32) between TOKENS";
        good("c4;t0 9 1 4;t10 16 2 1;", 3);
        good("   c   4   ;   t   0   9   1   4   ;   t   10   16   2   1   ;   ", 3);
        taken("t1 5 1 1;", 1, 5, 1, 1);
        taken("t 1 5 1 1 ;", 1, 5, 1, 1);
        fault("t15 1 1;", 4);
        fault("c2 0;", 3);
        fault("t1 0 16 2 1;", 3);
        // No other letter is a blank.
        for (int letter = 0; letter < 256; letter++) {
            if (letter != 32) {
                fault("c4; " + (char) letter + " ", letter == 't' ? 6 : 4);
            }
        }
    }

    private void itemsAreEnded() {
        sentence = "ITEMS, each ended by ;";
        fault("c4 t0 9 1 1;", 3);
        fault("c4t0 9 1 1;", 2);
        fault("c4 c4;", 3);
        fault("c4 4;", 3);
        fault("t0 9 1 1 1;", 9);
        fault("t0 9 1 1 t0 9 1 1;", 9);
        fault("t0 9 1 1 c4;", 9);
        fault("t0 9 1;", 6);
        fault("t0 9;", 4);
        fault("t0;", 2);
        fault("t;", 1);
        fault("c;", 1);
        fault(";", 0);
        fault("c4;;", 3);
        fault("t0 9 1 1;;", 9);
    }

    /** Every letter at the first place, behind c, behind t, behind c3, behind c1: all that a token can meet. */
    private void everyLetter() {
        sentence = "TOKENS are the letters c, t, NUMBERS and ; . .. of any other letter";
        for (int k = 0; k < 256; k++) {
            char letter = (char) k;
            boolean blank = k == 32;
            boolean digit = k >= '0' && k <= '9';
            if (blank) {
                good(" ", 0);
            } else {
                fault("" + letter, letter == 'c' || letter == 't' ? 1 : 0);
            }
            fault("c" + letter, blank || digit && k != '0' ? 2 : 1);
            fault("t" + letter, blank || digit ? 2 : 1);
            if (k == ';') {
                good("c3;", 1);
                good("c1;", 1);
            } else {
                fault("c3" + letter, blank ? 3 : digit ? 1 : 2);
                fault("c1" + letter, blank || digit ? 3 : 2);
                fault("t0 9 1 1" + letter, blank ? 9 : digit ? 7 : 8);
            }
        }
    }

    private void longNumbers() {
        sentence = "a NUMBER above 99";
        fault("c99;", 1);
        fault("c100;", 1);
        fault("c 101 ;", 2);
        fault("c999;", 1);
        // As many as wrap to 3 in an int, in a long; and a hundred of them would.
        fault("c4294967299;", 1);
        fault("c18446744073709551619;", 1);
        fault("t4294967296 9 1 1;", 1);
        fault("t0 4294967305 1 1;", 3);
        fault("t0 9 4294967297 1;", 5);
        fault("t0 9 1 4294967297;", 7);
        fault("t0 9 1 1 100;", 9);
        fault("100", 0);
    }

    private void zerosAhead() {
        sentence = "with a 0 ahead of others";
        fault("c03;", 1);
        fault("c 03;", 2);
        fault("c00;", 1);
        fault("t00 9 1 1;", 1);
        fault("t01 9 1 1;", 1);
        fault("t0 09 1 1;", 3);
        fault("t0 9 01 1;", 5);
        fault("t0 9 1 01;", 7);
        fault("t0 016 1 1;", 3);
        fault("01", 0);
        // A 0 alone, or behind others, is none.
        taken("t0 10 1 1;", 0, 10, 1, 1);
        taken("t10 16 1 1;", 10, 16, 1, 1);
        good("c20;", 1);
    }

    /** All numbers have one digit here, so that each beginning of the text is good as far as it goes. */
    private void endsTooEarly() {
        sentence = "the text's length, if it ends too early";
        String text = " c 4 ; t 0 5 1 1 ; t2 9 3 2 ;";
        int items = 0;
        for (int length = 0; length <= text.length(); length++) {
            String head = text.substring(0, length);
            items += head.endsWith(";") ? 1 : 0;
            if (head.isBlank() || head.trim().endsWith(";")) {
                good(head, items);
            } else {
                fault(head, length);
            }
        }
        fault("c   ", 4);
        fault("t0 9 1 1  ", 10);
    }

    private void firstFault() {
        sentence = "the first TOKEN that can't stand there";
        fault("x y", 0);
        fault("t5 5 1 9;x", 3);
        fault("c0;t16 9 1 1;", 1);
        fault("c3;t5 5 1 1;c007", 6);
        fault("t5 8 9 9;", 5);
        fault("t16 16 10 10;", 1);
        fault("c4;t0 9 1 5", 10);
        fault("c21", 1);
    }

    private void textStaysBehindFault() {
        sentence = "4: -10 less FAULT: nothing changes";
        WindowDesk x = Check.told("c7;t2 9 3 5;");
        Check.typeAll(x, "t0 9 1 1");
        due("desk(), not ended", x.desk(), -18);
        due("desk() again", x.desk(), -18);
        due("count(1)", x.count(1), 7);
        due("task(0, 0)", x.task(0, 0), 2);
        due("type(';')", x.type(';'), 9);
        due("desk(), ended", x.desk(), 1);
        due("count(1)", x.count(1), 3);
        due("task(0, 0)", x.task(0, 0), 0);
        // Good items ahead of the fault tell nothing.
        Check.typeAll(x, "c9;t1 9 2 2;t2 9 3 3;x");
        due("desk(), a fault at its end", x.desk(), -31);
        due("count(0)", x.count(0), 1);
        due("count(1)", x.count(1), 3);
        due("task(0, 0)", x.task(0, 0), 0);
        due("task(0, 2)", x.task(0, 2), 1);
        due("count(6)", x.count(6), 1);
        due("must(0)", x.must(0), 0);
        due("count(3)", x.count(3), 9);
    }

    private void emptyBehindDesk() {
        sentence = "4: THE TEXT .. is empty then";
        WindowDesk x = Check.told("c7;t2 9 3 5;");
        due("count(7)", x.count(7), 0);
        due("clear()", x.clear(), 0);
        due("type('t')", x.type('t'), 1);
        due("desk()", x.desk(), -11);
        due("count(0)", x.count(0), 1);
    }

    private void readAnew() {
        sentence = "Read anew: as told, nothing can be UNDONE, IMAGES are gone";
        WindowDesk x = Check.told("c1;t0 4 2 1;t1 4 2 1;t0 9 3 1;");
        x.tightens(4);
        x.puts(2, 1, 8);
        x.keep(0);
        x.keep(1);
        Check.typeAll(x, "c1;t0 4 2 1;t1 4 2 1;t0 9 3 1;");
        due("desk()", x.desk(), 4);
        int[] edges = {0, 4, 1, 4, 0, 9};
        for (int i = 0; i < 3; i++) {
            for (int side = 0; side < 2; side++) {
                due("task(" + i + ", " + side + ")", x.task(i, side), edges[2 * i + side]);
                due("why(" + i + ", " + side + ", 0)", x.why(i, side, 0), NONE);
                due("why(" + i + ", " + side + ", 1)", x.why(i, side, 1), NONE);
            }
        }
        due("count(8)", x.count(8), 0);
        due("undo()", x.undo(), -2);
        due("back(0)", x.back(0), -2);
        due("back(1)", x.back(1), -2);
        // Out of BROKEN, too.
        x = Check.told("c1;t0 2 2 1;t0 2 2 1;");
        x.tightens(0);
        due("count(2)", x.count(2), 1);
        Check.typeAll(x, "c1;t0 2 2 1;t0 4 2 1;");
        due("desk(), broken", x.desk(), 3);
        due("count(2)", x.count(2), 0);
        due("tightens(0)", x.tightens(0), 1);
    }

    public static void main(String[] args) {
        TextBoundsTest test = new TextBoundsTest();
        test.newObject();
        test.letters();
        test.hundredLetters();
        test.hundredthLetterCounts();
        test.cleared();
        test.clearLeavesTheRest();
        test.emptyText();
        test.items();
        test.fiveTasks();
        test.early();
        test.late();
        test.lateAboveEarly();
        test.lasting();
        test.lastingWithinWindow();
        test.need();
        test.needWithinRoom();
        test.room();
        test.roomFirst();
        test.blanks();
        test.itemsAreEnded();
        test.everyLetter();
        test.longNumbers();
        test.zerosAhead();
        test.endsTooEarly();
        test.firstFault();
        test.textStaysBehindFault();
        test.emptyBehindDesk();
        test.readAnew();
        test.check.end();
    }
}
