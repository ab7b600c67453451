/** What the tests of the project share: due answers, due exceptions, and the closing line. */
final class Check {
    /** A call that may throw. */
    interface Call {
        long answer();
    }

    private static int passed = 0;
    private static int failed = 0;
    private static int sentences = 0;
    private static String sentence = "";

    private Check() {
    }

    /** What is looked at from now on tests these words of the document. */
    static void sentence(String words) {
        sentence = "\"" + words + "\": ";
        sentences++;
    }

    /** The call must answer this. */
    static void due(String what, long want, Call call) {
        String got;
        try {
            long answer = call.answer();
            if (answer == want) {
                passed++;
                return;
            }
            got = "answered " + answer;
        } catch (RuntimeException e) {
            got = "threw " + e;
        }
        fail(what + " " + got + ", due is " + want);
    }

    static void yes(String what, boolean holds) {
        due(what, 1, () -> holds ? 1 : 0);
    }

    /** The call must throw exactly this. */
    static void thrown(String what, Class<? extends RuntimeException> want, Call call) {
        String got;
        try {
            got = "answered " + call.answer();
        } catch (RuntimeException e) {
            if (e.getClass() == want) {
                passed++;
                return;
            }
            got = "threw " + e;
        }
        fail(what + " " + got + ", due is " + want.getSimpleName());
    }

    static void fail(String what) {
        failed++;
        if (failed <= 100) {
            System.out.println(sentence + what);
        }
    }

    /** Ends the test: exit code 1 if an answer was not the one that was due. */
    static void end(String test) {
        String of = sentences == 0 ? "" : ", on " + sentences + " sentences";
        System.out.println(test + ": " + passed + " answers as due, " + failed + " not" + of);
        if (failed > 0) {
            System.exit(1);
        }
    }
}
