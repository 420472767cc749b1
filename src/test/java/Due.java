/** Counts and prints the answers that are not the ones due. */
final class Due {
    private static int wrong = 0;

    private Due() {
    }

    static void same(String call, long got, long want) {
        if (got != want) {
            wrong++;
            System.out.println(call + " answered " + got + ", due is " + want);
        }
    }

    static void holds(String what, boolean held) {
        if (!held) {
            wrong++;
            System.out.println("does not hold: " + what);
        }
    }

    /** Runs the test of one sentence of the document, and names the sentence if the test finds it broken. */
    static void sentence(String words, Runnable test) {
        int before = wrong;
        try {
            test.run();
        } catch (RuntimeException thrown) {
            holds("no call throws, but: " + thrown, false);
        }
        if (wrong != before) {
            System.out.println("  which breaks the sentence: " + words);
        }
    }

    static boolean allRight() {
        return wrong == 0;
    }

    static void end() {
        if (wrong != 0) {
            System.out.println(wrong + " answers are not as due");
            System.exit(1);
        }
    }
}
