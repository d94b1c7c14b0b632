/** Counts the answers that are not due, and lays out sheets for the tests. */
final class Due {
    static final long LOST = Long.MIN_VALUE;

    private final String test;
    private int wrong = 0;
    private int asked = 0;
    private String sentence = "";

    Due(String test) {
        this.test = test;
    }

    /** The words of the document that the next answers are due by; they are told with a wrong one. */
    void by(String words) {
        sentence = words;
    }

    void is(String call, long got, long want) {
        asked++;
        if (got != want) {
            wrong++;
            System.out.println(test + ": " + call + " answered " + got + ", due is " + want);
            if (!sentence.isEmpty()) {
                System.out.println("    by: " + sentence);
            }
        }
    }

    void holds(String what, boolean so) {
        is(what, so ? 1 : 0, 1);
    }

    /** Ends the run with exit code 1 if an answer was not due. */
    void end() {
        System.out.println(test + ": " + asked + " answers, " + wrong + " not as due");
        if (wrong != 0) {
            System.exit(1);
        }
    }

    /** A new object whose sheet 0 (bytes) has the text, and whose way is made by it. */
    static TrickHouses told(String text) {
        TrickHouses x = new TrickHouses();
        tell(x, text);
        return x;
    }

    static int tell(TrickHouses x, String text) {
        lay(x, 0, 0, text);
        return x.way(0, 0, 0, text.length());
    }

    static void lay(TrickHouses x, int sheet, int lane, String text) {
        x.sheet(sheet, lane, text.length());
        for (int p = 0; p < text.length(); p++) {
            x.put(sheet, p, text.charAt(p));
        }
    }

    /** Sheet 1 gets the numbers as a row of ints. */
    static void row(TrickHouses x, int... numbers) {
        fill(x, 1, 2, numbers);
    }

    static void fill(TrickHouses x, int sheet, int lane, int... numbers) {
        x.sheet(sheet, lane, numbers.length);
        for (int p = 0; p < numbers.length; p++) {
            x.put(sheet, p, numbers[p]);
        }
    }
}
