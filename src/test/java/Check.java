import java.util.function.IntSupplier;

/** Counts and prints the answers that are not as due; a test ends by calling end(). */
final class Check {
    private static int made = 0;
    private static int wrong = 0;
    private static String sentence = "";

    private Check() {
    }

    /** One sentence of the document and its test; a test that throws does not keep the others from running. */
    static void sentence(String words, Runnable test) {
        sentence = words;
        int before = made;
        try {
            test.run();
        } catch (RuntimeException e) {
            tell("threw " + e);
        }
        if (made == before) {
            tell("nothing was looked at");
        }
        sentence = "";
    }

    static void due(String call, long got, long want) {
        made++;
        if (got != want) {
            tell(call + " answered " + got + ", due is " + want);
        }
    }

    static void due(String call, String got, String want) {
        made++;
        if (!got.equals(want)) {
            tell(call + " answered " + got + ", due is " + want);
        }
    }

    static void due(String call, boolean got, boolean want) {
        due(call, got ? 1 : 0, want ? 1 : 0);
    }

    static void none(String call, IntSupplier run) {
        refused(call, run, "NoSuchElementException");
    }

    static void argument(String call, IntSupplier run) {
        refused(call, run, "IllegalArgumentException");
    }

    static void state(String call, IntSupplier run) {
        refused(call, run, "IllegalStateException");
    }

    /** What a call answers, or the name of what it throws. */
    static String answer(IntSupplier run) {
        try {
            return Integer.toString(run.getAsInt());
        } catch (RuntimeException e) {
            return e.getClass().getSimpleName();
        }
    }

    static void tell(String words) {
        wrong++;
        if (wrong <= 40) {
            System.out.println(sentence.isEmpty() ? words : '"' + sentence + "\": " + words);
        }
    }

    static void end() {
        System.out.println(made + " answers looked at, " + wrong + " not as due");
        if (wrong != 0) {
            System.exit(1);
        }
    }

    private static void refused(String call, IntSupplier run, String want) {
        due(call, answer(run), want);
    }
}
