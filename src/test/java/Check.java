/** What the tests have in common: each answer is held against the one that is due. */
final class Check {
    private static int right = 0;
    private static int wrong = 0;
    private static String sentence = "";

    interface Call {
        long answer();
    }

    private Check() {
    }

    /** What follows tests this sentence, or part of one, as the document writes it. */
    static void sentence(String told) {
        sentence = "[" + told + "] ";
    }

    static void due(String call, long got, long want) {
        if (got == want) {
            right++;
            return;
        }
        wrong++;
        System.out.println(sentence + call + " answered " + got + ", due is " + want);
    }

    static void due(String call, boolean got, boolean want) {
        due(call, got ? 1 : 0, want ? 1 : 0);
    }

    /** The call must throw just this class, nothing above or below it, and SkiHill itself must throw it, not what it calls. */
    static void thrown(String call, Class<? extends RuntimeException> want, Call made) {
        try {
            long got = made.answer();
            wrong++;
            System.out.println(sentence + call + " answered " + got + ", due is throws." + want.getSimpleName());
        } catch (RuntimeException e) {
            due(call + " throws " + e.getClass().getSimpleName() + " for " + want.getSimpleName(), e.getClass() == want, true);
            due(call + " throws by a throw of its own", e.getStackTrace()[0].getClassName().startsWith("SkiHill"), true);
        }
    }

    static void place(String call, Call made) {
        thrown(call, IndexOutOfBoundsException.class, made);
    }

    static void number(String call, Call made) {
        thrown(call, IllegalArgumentException.class, made);
    }

    static void full(String call, Call made) {
        thrown(call, UnsupportedOperationException.class, made);
    }

    /** Puts a text on the TAPE, which must be empty. */
    static void text(SkiHill hill, String text) {
        int[] numbers = new int[5 * ((text.length() + 19) / 20)];
        for (int k = 0; k < text.length(); k++) {
            numbers[k / 4] |= text.charAt(k) << 24 - 8 * (k % 4);
        }
        for (int k = 0; k < numbers.length; k += 5) {
            hill.feed(numbers[k], numbers[k + 1], numbers[k + 2], numbers[k + 3], numbers[k + 4]);
        }
        hill.end(text.length());
    }

    static int rule(SkiHill hill, int slope, String text) {
        text(hill, text);
        return hill.rule(slope);
    }

    static void close() {
        System.out.println(right + " answers as due, " + wrong + " not");
        if (wrong != 0 || right == 0) {
            System.exit(1);
        }
    }
}
