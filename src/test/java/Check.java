/** Counts the answers that are not due, and feeds texts. */
final class Check {
    private static final int SHOWN = 30;
    private int wrong;
    private int asked;

    void due(String call, long got, long want) {
        asked++;
        if (got != want) {
            wrong++;
            if (wrong <= SHOWN) {
                System.out.println(call + " answered " + got + ", due is " + want);
            }
        }
    }

    void isTrue(String what, boolean is) {
        due(what, is ? 1 : 0, 1);
    }

    void end() {
        System.out.println(asked + " answers, " + wrong + " of them not as due");
        if (wrong != 0) {
            System.exit(1);
        }
    }

    boolean anyWrong() {
        return wrong != 0;
    }

    static void feed(HalvedProof x, String text) {
        for (int from = 0; from < text.length(); from += 8) {
            int to = Math.min(text.length(), from + 8);
            long bytes = 0;
            for (int i = from; i < to; i++) {
                bytes = bytes << 8 | text.charAt(i);
            }
            x.feed(to - from, bytes);
        }
    }

    static int court(HalvedProof x, String text) {
        feed(x, text);
        return x.court();
    }

    static int laws(HalvedProof x, String text) {
        feed(x, text);
        return x.laws();
    }

    /** A new object with this court and these laws. */
    static HalvedProof made(String court, String laws) {
        HalvedProof x = new HalvedProof();
        court(x, court);
        laws(x, laws);
        return x;
    }
}
