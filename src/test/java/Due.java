/** Compares answers with those that are due, and ends a test with exit code 1 if one differs. */
final class Due {
    private static int asked = 0;
    private static int wrong = 0;
    private static int sentences = 0;
    private static String sentence = "";

    private Due() {
    }

    /** The words of the document that the answers from here on are held against. */
    static void sentence(String words) {
        sentence = words;
        sentences++;
    }

    static void due(String call, long got, long want) {
        asked++;
        if (got != want) {
            wrong++;
            System.out.println(call + " answered " + got + ", due is " + want
                + (sentence.isEmpty() ? "" : "; the document: " + sentence));
        }
    }

    static void holds(String what, boolean so) {
        due(what, so ? 1 : 0, 1);
    }

    static boolean anyWrong() {
        return wrong > 0;
    }

    /** Types a text as it stands, eight bytes a call; its signs are bytes. */
    static void typed(EvenStride x, String text) {
        for (int from = 0; from < text.length(); from += 8) {
            int n = Math.min(8, text.length() - from);
            long bytes = 0;
            for (int k = from; k < from + n; k++) {
                bytes = bytes << 8 | text.charAt(k);
            }
            x.type(bytes, n);
        }
    }

    /** Types a text and makes it the rule. */
    static int ruled(EvenStride x, String text) {
        x.clear();
        typed(x, text);
        return x.rule();
    }

    static void end(String name) {
        System.out.println(name + ": " + asked + " answers, " + wrong + " not as due"
            + (sentences > 0 ? ", " + sentences + " sentences of the document" : ""));
        if (wrong > 0 || asked == 0) {
            System.exit(1);
        }
    }
}
