/** Counts and prints the answers that are not the ones due. */
final class Check {
    private int wrong = 0;
    private String words = "";

    /** The document's words that the answers from here on are held against. */
    void sentence(String text) {
        words = text;
    }

    void due(String call, long got, long want) {
        if (got != want) {
            report(call + " answered " + got + ", due is " + want);
        }
    }

    void due(String call, boolean got, boolean want) {
        if (got != want) {
            report(call + " answered " + got + ", due is " + want);
        }
    }

    void due(String what, String got, String want) {
        if (!got.equals(want)) {
            report(what + "\n  is     " + got + "\n  due is " + want);
        }
    }

    void report(String fault) {
        wrong++;
        // A broken rule shows in thousands of answers; the first ones tell enough.
        if (wrong <= 20) {
            System.out.println(fault);
            if (!words.isEmpty()) {
                System.out.println("  the document: " + words);
            }
        }
    }

    void finish() {
        if (wrong != 0) {
            System.out.println(wrong + " answers are not as due");
            System.exit(1);
        }
        System.out.println("all answers are as due");
    }
}
