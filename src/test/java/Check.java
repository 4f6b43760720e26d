/** Counts answers that are not as due, and ends a test with 1 if there were any. */
final class Check {
    private int asked;
    private int wrong;

    void due(String call, long got, long want) {
        asked++;
        if (got != want) {
            wrong++;
            System.out.println(call + " answered " + got + ", due is " + want);
        }
    }

    void end() {
        System.out.println(asked + " answers, " + wrong + " not as due");
        if (wrong != 0 || asked == 0) {
            System.exit(1);
        }
    }

    static void typeAll(WindowDesk x, String text) {
        for (int k = 0; k < text.length(); k++) {
            x.type(text.charAt(k));
        }
    }

    /** A new object that was told a text. */
    static WindowDesk told(String text) {
        WindowDesk x = new WindowDesk();
        typeAll(x, text);
        x.desk();
        return x;
    }
}
