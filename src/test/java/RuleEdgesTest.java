/** What the document says of edges in THE RULE and in promises 8 to 11, a sentence a method. */
public final class RuleEdgesTest {
    private static final int LEAST = Integer.MIN_VALUE, MOST = Integer.MAX_VALUE;
    private static final int BAD = EvenStride.BAD, FULL = EvenStride.FULL;
    private static final long STOPS = 0x3b3b3b3b3b3b3b3bL;
    private static final int[] AT_FIRST = {1, 1, 1, 1, 200, 200};
    private static final String[] ITEMS = {"best 2 of 3;", "move 4/5;", "cap 6;", "over 7;"};

    public static void main(String[] args) {
        textIsFull();
        badGoesAheadOfFull();
        typeN();
        highestByteFirst();
        bytesOfAnyKind();
        clear();
        emptyText();
        textOf200Bytes();
        blanks();
        eachAtMostOnce();
        inAnyOrder();
        endedByStop();
        bestKOfN();
        moveAByB();
        capAndOver();
        untoldIsAsAtFirst();
        letters();
        digits();
        numberWithZeroAhead();
        numberTooLarge();
        tokenThatCannotStandThere();
        firstOfSeveralFaults();
        endsTooEarly();
        emptyThen();
        faultChangesNothing();
        told();
        Due.end("RuleEdgesTest");
    }

    /** A text of n bytes (7 at least) that is a whole rule: blanks behind one item. */
    private static EvenStride filled(int n) {
        EvenStride x = new EvenStride();
        Due.typed(x, "cap 57;" + " ".repeat(n - 7));
        return x;
    }

    private static void rules(String text, int due) {
        EvenStride x = new EvenStride();
        Due.due("rule() of '" + text + "'", Due.ruled(x, text), due);
    }

    private static void faulty(String text, int place) {
        rules(text, -10 - place);
    }

    private static void tells(EvenStride x, String of, int... due) {
        for (int what = 0; what < 6; what++) {
            Due.due(of + ": told(" + what + ")", x.told(what), due[what]);
        }
    }

    private static void textIsFull() {
        Due.sentence("THE RULE is a text (200 bytes at most)");
        for (int n = 1; n <= 8; n++) {
            int bytes = n;
            EvenStride x = filled(200 - n);
            Due.due("type of " + n + " up to 200", x.type(STOPS, n), 200);
            Due.due("count(2)", x.count(2), 200);
            Due.due("type of " + n + " up to 199", filled(199 - n).type(STOPS, n), 199);
            Unchanged.by("type of " + n + " up to 201", () -> filled(201 - bytes), y -> y.type(STOPS, bytes), FULL);
            Unchanged.by("type of " + n + " at 200", () -> filled(200), y -> y.type(STOPS, bytes), FULL);
        }
    }

    private static void badGoesAheadOfFull() {
        Due.sentence("Refused, and nothing changes, the first of these: BAD");
        Unchanged.byEach("type(v, #) at 200", () -> filled(200), (x, v) -> x.type(STOPS, v), BAD, 0, 9, LEAST, MOST);
    }

    private static void typeN() {
        Due.sentence("The lowest n (1 .. 8) bytes of v");
        Unchanged.byEach("type(v, #)", Sample::three, (x, v) -> x.type(STOPS, v), BAD, -1, 0, 9, 64, LEAST, MOST);
        Due.due("type(v, 1)", new EvenStride().type(STOPS, 1), 1);
        Due.due("type(v, 8)", new EvenStride().type(STOPS, 8), 8);
        for (int n = 1; n <= 8; n++) {
            // blanks in the lowest n bytes, and what begins no token above them
            long blanks = 0x2020202020202020L;
            long v = n == 8 ? blanks : blanks & (1L << 8 * n) - 1 | -1L << 8 * n;
            EvenStride x = new EvenStride();
            Due.due("type of the lowest " + n, x.type(v, n), n);
            Due.due("what is above is not looked at", x.rule(), 0);
            EvenStride y = new EvenStride();
            y.type(0x3bL << 8 * (n - 1) | blanks & (1L << 8 * (n - 1)) - 1, n);
            Due.due("the highest of the lowest " + n, y.rule(), -10);
        }
    }

    private static void highestByteFirst() {
        Due.sentence("the highest of them first, come to THE TEXT: how many it has.");
        EvenStride x = new EvenStride();
        Due.due("type 'cap 12; '", x.type(0x6361702031323b20L, 8), 8);
        Due.due("rule()", x.rule(), 1);
        Due.due("told(4)", x.told(4), 12);
        Due.due("type 'over 34'", x.type(0x6f766572203334L, 7), 7);
        Due.due("type ';' behind it", x.type(0x3b, 1), 8);
        Due.due("rule()", x.rule(), 1);
        Due.due("told(5)", x.told(5), 34);
    }

    private static void bytesOfAnyKind() {
        Due.sentence("The lowest n (1 .. 8) bytes of v");
        for (long v : new long[] {-1L, 0L, Long.MIN_VALUE, Long.MAX_VALUE}) {
            EvenStride x = new EvenStride();
            Due.due("type(" + v + ", 8)", x.type(v, 8), 8);
            Due.due("rule()", x.rule(), -10);
            Due.due("count(2)", x.count(2), 8);
        }
        EvenStride high = new EvenStride();
        // the bytes of 'cap 12; ' with their top bits set are other bytes
        high.type(0x6361702031323b20L | 0x8080808080808080L, 8);
        Due.due("rule() of bytes above 127", high.rule(), -10);
    }

    private static void clear() {
        Due.sentence("THE TEXT is empty: how many bytes it had.");
        Unchanged.by("clear() of nothing", EvenStride::new, EvenStride::clear, 0);
        for (int n : new int[] {7, 8, 199, 200}) {
            EvenStride x = filled(n);
            Due.due("clear() of " + n, x.clear(), n);
            Due.due("clear() again", x.clear(), 0);
            Due.due("rule() of nothing", x.rule(), 0);
            Due.due("nothing of the text was told", x.told(4), 200);
        }
        EvenStride x = filled(200);
        x.clear();
        Due.typed(x, " ".repeat(200));
        Due.due("200 more fit", x.count(2), 200);
        EvenStride y = Sample.three();
        y.clear();
        tells(y, "THE RULE stays", 2, 3, 2, 3, 30, 40);
    }

    private static void emptyText() {
        Due.sentence("THE TEXT becomes THE RULE, and is empty then: how many ITEMS.");
        for (String text : new String[] {"", " ", "  ", " ".repeat(199), " ".repeat(200)}) {
            EvenStride x = new EvenStride();
            Due.ruled(x, "best 2 of 3;move 4/5;cap 6;over 7;");
            Due.due("rule() of " + text.length() + " blanks", Due.ruled(x, text), 0);
            tells(x, "no item", AT_FIRST);
        }
        for (int items = 1; items <= 4; items++) {
            rules(String.join("", java.util.Arrays.copyOf(ITEMS, items)), items);
        }
    }

    private static void textOf200Bytes() {
        Due.sentence("THE RULE is a text (200 bytes at most)");
        rules(" ".repeat(193) + "cap 57;", 1);
        faulty(" ".repeat(199) + "?", 199);
        faulty(" ".repeat(194) + "cap 57", 200);
        faulty(" ".repeat(199) + "c", 199);
        faulty(" ".repeat(197) + "cap", 200);
        faulty("cap 5" + " ".repeat(195), 200);
        faulty("5".repeat(200), 0);
        faulty("c".repeat(200), 0);
        faulty("cap " + "0".repeat(196), 4);
        faulty(";".repeat(200), 0);
    }

    private static void blanks() {
        Due.sentence("read byte by byte, blanks (32) between TOKENS");
        for (int one = 0; one < 256; one++) {
            char sign = (char) one;
            boolean letter = sign >= 'a' && sign <= 'z';
            boolean digit = sign >= '1' && sign <= '9';
            boolean blank = one == 32;
            rules(sign + "cap 5;", blank ? 1 : -10);
            rules("cap" + sign + "5;", blank || digit ? 1 : letter ? -10 : -13);
            rules("cap 5" + sign + ";", blank || digit || sign == '0' ? 1 : sign == ';' ? -16 : -15);
            rules("cap 5;" + sign, blank ? 1 : -16);
        }
        rules("best 1 of 2;move 3/4;", 2);
        rules("  best   1   of   2   ;   move   3   /   4   ;  ", 2);
        rules("best1of2;move3/4;", 2);
        faulty("be st 1 of 2;", 0);
        faulty("best 1 o f 2;", 7);
        faulty("cap 1 2;", 6);
    }

    private static void eachAtMostOnce() {
        Due.sentence("ITEMS, each at most once");
        String all = String.join("", ITEMS);
        for (String first : ITEMS) {
            for (String second : ITEMS) {
                if (first.equals(second)) {
                    faulty(first + second, first.length());
                    faulty(first + " " + second, first.length() + 1);
                } else {
                    rules(first + second, 2);
                    faulty(first + second + first, first.length() + second.length());
                }
            }
            faulty(all + first, all.length());
        }
        rules(all, 4);
    }

    private static void inAnyOrder() {
        Due.sentence("ITEMS, each at most once, each ended by ;");
        for (int order = 0; order < 256; order++) {
            int[] which = {order & 3, order >> 2 & 3, order >> 4 & 3, order >> 6 & 3};
            if ((1 << which[0] | 1 << which[1] | 1 << which[2] | 1 << which[3]) != 15) {
                continue;
            }
            EvenStride x = new EvenStride();
            String text = ITEMS[which[0]] + ITEMS[which[1]] + ITEMS[which[2]] + ITEMS[which[3]];
            Due.due("rule() of '" + text + "'", Due.ruled(x, text), 4);
            tells(x, text, 2, 3, 4, 5, 6, 7);
        }
    }

    private static void endedByStop() {
        Due.sentence("each ended by ;");
        for (String item : ITEMS) {
            String bare = item.substring(0, item.length() - 1);
            faulty(bare, bare.length());
            faulty(bare + " ", bare.length() + 1);
            rules(bare + " ;", 1);
            faulty(item + ";", item.length());
            faulty(";" + item, 0);
            faulty(bare + "," + item, bare.length());
            faulty(bare + " " + ITEMS[item.equals(ITEMS[0]) ? 1 : 0], bare.length() + 1);
        }
    }

    private static void pair(String head, int first, String between, int second, int most) {
        String text = head + first + between + second + ";";
        EvenStride x = new EvenStride();
        int at = head.startsWith("best") ? 0 : 2;
        int place = head.length() + (first + between).length();
        boolean firstFits = first >= 1 && first <= most;
        boolean secondFits = second >= first && second <= most;
        int due = !firstFits ? -10 - head.length() : !secondFits ? -10 - place : 1;
        Due.due("rule() of '" + text + "'", Due.ruled(x, text), due);
        Due.due("'" + text + "': first", x.told(at), due == 1 ? first : 1);
        Due.due("'" + text + "': second", x.told(at + 1), due == 1 ? second : 1);
    }

    private static void bestKOfN() {
        Due.sentence("best K of N (1 .. 12 each, K no more than N; at first 1 of 1)");
        for (int k = 0; k <= 14; k++) {
            for (int n = 0; n <= 14; n++) {
                pair("best ", k, " of ", n, 12);
            }
        }
        faulty("best 0 of 1;", 5);
        rules("best 1 of 1;", 1);
        rules("best 12 of 12;", 1);
        faulty("best 13 of 12;", 5);
        faulty("best 12 of 13;", 11);
        faulty("best 3 of 2;", 10);
        tells(new EvenStride(), "at first", AT_FIRST);
    }

    private static void moveAByB() {
        Due.sentence("move A / B (1 .. 20 each, A no more than B; 1 / 1)");
        for (int a = 0; a <= 22; a++) {
            for (int b = 0; b <= 22; b++) {
                pair("move ", a, "/", b, 20);
            }
        }
        faulty("move 0/1;", 5);
        rules("move 1/1;", 1);
        rules("move 20/20;", 1);
        faulty("move 21/20;", 5);
        faulty("move 20/21;", 8);
        faulty("move 3/2;", 7);
    }

    private static void capAndOver() {
        Due.sentence("cap C (0 .. 200; 200), over T (0 .. 200; 200)");
        String[] heads = {"cap ", "over "};
        for (int which = 0; which < 2; which++) {
            for (int v : new int[] {0, 1, 9, 10, 99, 100, 199, 200}) {
                EvenStride x = new EvenStride();
                Due.due("rule() of " + heads[which] + v, Due.ruled(x, heads[which] + v + ";"), 1);
                Due.due("told(4)", x.told(4), which == 0 ? v : 200);
                Due.due("told(5)", x.told(5), which == 1 ? v : 200);
            }
            for (int v : new int[] {201, 202, 999, 1000}) {
                faulty(heads[which] + v + ";", heads[which].length());
            }
            faulty(heads[which] + "-1;", heads[which].length());
        }
    }

    private static void untoldIsAsAtFirst() {
        Due.sentence("What is not told is as at first.");
        int[] told = {2, 3, 4, 5, 6, 7};
        int[] item = {0, 0, 1, 1, 2, 3};
        for (int set = 0; set < 16; set++) {
            EvenStride x = new EvenStride();
            Due.ruled(x, "best 12 of 12;move 20/20;cap 0;over 0;");
            StringBuilder text = new StringBuilder();
            int[] due = AT_FIRST.clone();
            for (int k = 0; k < 4; k++) {
                text.append((set >> k & 1) == 1 ? ITEMS[k] : "");
            }
            for (int what = 0; what < 6; what++) {
                due[what] = (set >> item[what] & 1) == 1 ? told[what] : AT_FIRST[what];
            }
            Due.due("rule() of '" + text + "'", Due.ruled(x, text.toString()), Integer.bitCount(set));
            tells(x, text.toString(), due);
        }
    }

    private static void letters() {
        Due.sentence("TOKENS are words of letters a .. z (best, of, move, cap, over)");
        // the bytes just below a and just above z, and capitals, are of no word
        for (String other : new String[] {"`", "{", "A", "Z", "@", "[", "_", "\u00e1", "\u00fa"}) {
            faulty(other + "cap 5;", 0);
            faulty("cap" + other + " 5;", 3);
            faulty("cap 5;" + other, 6);
        }
        for (String letter : new String[] {"a", "z"}) {
            for (String item : ITEMS) {
                faulty(letter + item, 0);
                faulty("best" + letter + item, 0);
            }
            faulty("cap" + letter + " 5;", 0);
            faulty("cap 5" + letter + ";", 5);
        }
        for (String word : new String[] {"best", "of", "move", "cap", "over"}) {
            faulty("cap 5;" + word.substring(1) + " 1;", 6);
            faulty("cap 5;" + word.substring(0, word.length() - 1) + " 1;", 6);
            faulty("over 5;" + word + word + " 1;", 7);
            faulty("over 5;" + word + "s 1;", 7);
        }
    }

    private static void digits() {
        Due.sentence("NUMBERS, / and ;");
        // the bytes just below 0 and just above 9
        faulty("cap /5;", 4);
        faulty("cap :5;", 4);
        faulty("cap 5/;", 5);
        faulty("cap 5:;", 5);
        rules("cap 0;", 1);
        rules("cap 9;", 1);
        rules("cap 109;", 1);
        faulty("cap .5;", 4);
        faulty("cap +5;", 4);
    }

    private static void numberWithZeroAhead() {
        Due.sentence("a NUMBER above 999 or with a 0 ahead of others, that TOKEN's");
        rules("cap 0;", 1);
        rules("over 0 ;", 1);
        for (String number : new String[] {"00", "01", "05", "000", "0200", "00000000000000000000"}) {
            faulty("cap " + number + ";", 4);
            faulty("over 5;cap   " + number + ";", 13);
        }
        faulty("best 01 of 2;", 5);
        faulty("best 1 of 02;", 10);
        faulty("move 01/2;", 5);
        faulty("move 1/02;", 7);
        rules("cap 10;", 1);
        rules("cap 100;", 1);
        rules("cap 200;", 1);
    }

    private static void numberTooLarge() {
        Due.sentence("a NUMBER above 999");
        // what wraps around to a number that would fit, at 32 and at 64 bits, too
        String[] numbers = {
            "999", "1000", "1001", "1005", "2147483648", "4294967296", "4294967301", "18446744073709551616",
            "18446744073709551621", "10000000000000000000000000000000000000005",
        };
        for (String number : numbers) {
            faulty("cap " + number + ";", 4);
            faulty("best " + number + " of 5;", 5);
            faulty("move 1/" + number + ";", 7);
            faulty(number, 0);
        }
    }

    /** Each token of each item in turn gives way to each that can't stand there. */
    private static void tokenThatCannotStandThere() {
        Due.sentence("the place of the first byte of the first TOKEN that can't stand there");
        String[][] items = {{"best", "2", "of", "3", ";"}, {"move", "4", "/", "5", ";"}, {"cap", "6", ";"}, {"over", "7", ";"}};
        String[] others = {"best", "of", "move", "cap", "over", "/", ";", "8", "x", "?", "1000", "00", "201"};
        for (String[] item : items) {
            for (int at = 0; at < item.length; at++) {
                for (String other : others) {
                    boolean number = Character.isDigit(item[at].charAt(0));
                    if (other.equals(item[at]) || number && other.equals("8") || at == 0 && other.matches("best|move|cap|over")) {
                        continue;
                    }
                    String ahead = String.join(" ", java.util.Arrays.copyOf(item, at));
                    String behind = String.join(" ", java.util.Arrays.copyOfRange(item, at + 1, item.length));
                    String text = ahead + " " + other + " " + behind;
                    faulty(text, ahead.length() + 1);
                    faulty(item[0].equals("cap") ? "over 1;" + text : "cap 1;" + text,
                        ahead.length() + (item[0].equals("cap") ? 8 : 7));
                }
            }
        }
    }

    private static void firstOfSeveralFaults() {
        Due.sentence("of the first TOKEN that can't stand there");
        faulty("cap 201; ?", 4);
        faulty("? cap 201;", 0);
        faulty("cap cap ?", 4);
        faulty("cap 5; cap 201;", 7);
        faulty("best 13 of 14;", 5);
        faulty("best 3 off 2;", 7);
        faulty("best 3 of 2", 10);
        faulty("move 5/4/3", 7);
        faulty("cap 1;cap", 6);
        faulty("cap 0005 ?", 4);
    }

    private static void prefixes(String text, int... due) {
        for (int n = 0; n <= text.length(); n++) {
            rules(text.substring(0, n), due[n]);
            // blanks behind a whole token move the text's end; behind a word cut short its place stays
            int cut = due[n] == -10 - n ? due[n] - 2 : due[n];
            rules(text.substring(0, n) + "  ", cut);
        }
    }

    private static void endsTooEarly() {
        Due.sentence("the text's length, if it ends too early.");
        prefixes("best 2 of 3;", 0, -10, -10, -10, -14, -15, -16, -17, -17, -19, -20, -21, 1);
        prefixes("move 1/2;", 0, -10, -10, -10, -14, -15, -16, -17, -18, 1);
        prefixes("cap 12;", 0, -10, -10, -13, -14, -15, -16, 1);
        prefixes("over 3;", 0, -10, -10, -10, -14, -15, -16, 1);
        prefixes("cap 1;over 2;", 0, -10, -10, -13, -14, -15, 1, -16, -16, -16, -20, -21, -22, 2);
    }

    private static void emptyThen() {
        Due.sentence("THE TEXT becomes THE RULE, and is empty then");
        EvenStride x = filled(200);
        Due.due("rule() of 200 bytes", x.rule(), 1);
        Due.due("count(2)", x.count(2), 0);
        Due.due("told(4)", x.told(4), 57);
        Due.due("type 8 more", x.type(0x2020202020202020L, 8), 8);
        Due.due("rule() of what came since", x.rule(), 0);
        Due.due("told(4) as at first", x.told(4), 200);
    }

    private static EvenStride withText(String text) {
        EvenStride x = Sample.three();
        x.clear();
        Due.typed(x, text);
        return x;
    }

    private static void faultChangesNothing() {
        Due.sentence("-10 less FAULT: nothing changes.");
        Unchanged.by("rule() with a fault at 0", () -> withText("?"), EvenStride::rule, -10);
        Unchanged.by("rule() with a fault at 1", () -> withText(" ?"), EvenStride::rule, -11);
        Unchanged.by("rule() with a fault at its end", () -> withText("best 1 of 1;move 1/1;cap 0;over 0"),
            EvenStride::rule, -43);
        Unchanged.by("rule() with a fault behind all items", () -> withText("best 1 of 1;move 1/1;cap 0;over 0;;"),
            EvenStride::rule, -44);
        Unchanged.by("rule() with a fault at 199", () -> withText("cap 0;" + " ".repeat(193) + "c"),
            EvenStride::rule, -209);
        Unchanged.by("rule() with a fault at 200", () -> withText("cap 0;" + " ".repeat(189) + "over9"),
            EvenStride::rule, -210);
        EvenStride x = withText("cap 5;over 1");
        Due.due("rule()", x.rule(), -22);
        tells(x, "THE RULE stays", 2, 3, 2, 3, 30, 40);
        Due.due("THE TEXT stays", x.type('2', 1), 13);
        Due.due("and goes on", x.type(';', 1), 14);
        Due.due("rule() now", x.rule(), 2);
        tells(x, "all that was typed", 1, 1, 1, 1, 5, 12);
    }

    private static void told() {
        Due.sentence("Of THE RULE: 0 K, 1 N, 2 A, 3 B, 4 C, 5 T. BAD.");
        Unchanged.byEach("told(#)", Sample::three, (x, v) -> x.told(v), BAD, -1, 6, 32, LEAST, MOST);
        tells(Sample.three(), "each", 2, 3, 2, 3, 30, 40);
        EvenStride x = new EvenStride();
        Due.ruled(x, "best 5 of 6;move 7/8;cap 9;over 10;");
        tells(x, "each", 5, 6, 7, 8, 9, 10);
        tells(new EvenStride(), "new", AT_FIRST);
    }
}
