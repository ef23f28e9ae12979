/** Counts answers that are not the ones that are due; what every test of the project ends with. */
final class Due {
    interface Call {
        long answer();
    }

    private static final int MOST_PRINTED = 50;

    private static int wrong = 0;
    private static String sentence = "";

    private Due() {
    }

    /** The document's words that the answers from here on are due by; a wrong answer names them. */
    static void by(String words) {
        sentence = words;
    }

    static void answer(String call, long got, long want) {
        if (got != want) {
            tell(call + " answered " + got + ", due is " + want);
        }
    }

    static void answer(String call, boolean got, boolean want) {
        if (got != want) {
            tell(call + " answered " + got + ", due is " + want);
        }
    }

    static void exception(String call, Class<? extends RuntimeException> want, Call run) {
        String got = outcome(run);
        String due = "throws." + want.getSimpleName();
        if (!got.equals(due)) {
            tell(call + " answered " + got + ", due is " + due);
        }
    }

    /** The answer as a text, or throws. and the name of the very class that was thrown. */
    static String outcome(Call run) {
        try {
            return Long.toString(run.answer());
        } catch (RuntimeException e) {
            return "throws." + e.getClass().getSimpleName();
        }
    }

    static void outcome(String call, String got, String want) {
        if (!got.equals(want)) {
            tell(call + " answered " + got + ", due is " + want);
        }
    }

    static boolean noneIsWrong() {
        return wrong == 0;
    }

    static void end() {
        System.out.println(wrong == 0 ? "all answers are as due" : wrong + " answers are not as due");
        if (wrong != 0) {
            System.exit(1);
        }
    }

    private static void tell(String text) {
        wrong++;
        if (wrong <= MOST_PRINTED) {
            System.out.println(sentence.isEmpty() ? text : text + "  (\"" + sentence + "\")");
        }
    }
}
