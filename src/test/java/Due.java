/** Compares answers with those that are due, and ends a test with exit code 1 if one differs. */
final class Due {
    private static int asked = 0;
    private static int wrong = 0;

    private Due() {
    }

    static void due(String call, long got, long want) {
        asked++;
        if (got != want) {
            wrong++;
            System.out.println(call + " answered " + got + ", due is " + want);
        }
    }

    static void holds(String what, boolean so) {
        due(what, so ? 1 : 0, 1);
    }

    static boolean anyWrong() {
        return wrong > 0;
    }

    /** Types a text as it stands; its signs are bytes. */
    static void typed(EvenStride x, String text) {
        for (int k = 0; k < text.length(); k++) {
            x.type(text.charAt(k), 1);
        }
    }

    /** Types a text and makes it the rule. */
    static int ruled(EvenStride x, String text) {
        x.clear();
        typed(x, text);
        return x.rule();
    }

    static void end(String name) {
        System.out.println(name + ": " + asked + " answers, " + wrong + " not as due");
        if (wrong > 0 || asked == 0) {
            System.exit(1);
        }
    }
}
