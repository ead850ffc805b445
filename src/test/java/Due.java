/** Counts the answers that are not as due, and ends a test by their number. */
final class Due {
    private static int asked = 0;
    private static int wrong = 0;
    private static String sentence = "";

    private Due() {
    }

    static void is(String call, long got, long want) {
        asked++;
        if (got != want) {
            wrong++;
            if (wrong <= 50) {
                System.out.println(sentence + call + " answered " + got + ", due is " + want);
            }
        }
    }

    static void is(String call, boolean got, boolean want) {
        is(call, got ? 1 : 0, want ? 1 : 0);
    }

    /** The test of one sentence, which must ask something. */
    static void sentence(String words, Runnable test) {
        int before = asked;
        sentence = words + ": ";
        test.run();
        sentence = "";
        holds("asks of " + words, asked > before);
    }

    static void holds(String what, boolean so) {
        is(what, so, true);
    }

    static int wrongs() {
        return wrong;
    }

    static void end() {
        System.out.println(asked + " asked, " + wrong + " not as due");
        if (asked == 0 || wrong != 0) {
            System.exit(1);
        }
    }
}
