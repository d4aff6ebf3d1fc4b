/** Runs one test for each sentence of the document and tells which sentences do not hold. */
final class Sentence {
    private static final int SHOWN = 10;
    private static String now = "";
    private static int sentences = 0;
    private static int broken = 0;
    private static int wrongHere = 0;

    private Sentence() {
    }

    static void holds(String words, Runnable test) {
        now = words;
        sentences++;
        wrongHere = 0;
        try {
            test.run();
        } catch (RuntimeException e) {
            wrong("a call ended with " + e);
        }
        if (wrongHere > 0) {
            broken++;
        }
    }

    static void due(String what, long got, long want) {
        if (got != want) {
            wrong(what + " answered " + got + ", due is " + want);
        }
    }

    static void wrong(String what) {
        wrongHere++;
        if (wrongHere <= SHOWN) {
            System.out.println("[" + now + "] " + what);
        }
    }

    static void finish() {
        System.out.println(sentences + " sentences tested, " + broken + " do not hold");
        if (broken != 0) {
            System.exit(1);
        }
    }
}
