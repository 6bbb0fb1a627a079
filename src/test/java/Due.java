/** Compares answers with those that are due, and ends a test with exit code 1 if one was wrong. */
final class Due {
    private static int wrong = 0;
    private static int asked = 0;
    private static String sentence = "";

    private Due() {
    }

    /** The sentence of the document that the answers from here on belong to; a wrong one is told with it. */
    static void sentence(String words) {
        sentence = "\"" + words + "\": ";
    }

    static void is(String call, int got, int want) {
        compare(call + " answered " + got + ", due is " + want, got == want);
    }

    static void is(String call, boolean got, boolean want) {
        compare(call + " answered " + got + ", due is " + want, got == want);
    }

    static void same(String what, String got, String want) {
        compare(what + ": found " + got + ", due is " + want, got.equals(want));
    }

    private static void compare(String told, boolean right) {
        asked++;
        if (!right) {
            wrong++;
            System.out.println(sentence + told);
        }
    }

    /** Too many wrong answers to be worth going on. */
    static boolean hopeless() {
        return wrong > 20;
    }

    static void end() {
        System.out.println(wrong == 0 ? asked + " answers are as due" : wrong + " of " + asked + " answers are not as due");
        if (wrong != 0) {
            System.exit(1);
        }
    }
}
