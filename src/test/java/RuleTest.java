import java.util.Random;

/** Promises 8 to 11: type, clear, rule, told. */
public final class RuleTest {
    private static final int[] AT_FIRST = {1, 1, 1, 1, 200, 200};

    public static void main(String[] args) {
        typeOrder();
        typeEdges();
        clear();
        rulesTold();
        faults();
        strangeBytes();
        faultChangesNothing();
        untoldIsAsAtFirst();
        longest();
        told();
        randomTexts();
        Due.end("RuleTest");
    }

    /** The highest byte comes first, and what is above the lowest n is not looked at. */
    private static void typeOrder() {
        EvenStride x = new EvenStride();
        Due.due("type 4 of 8", x.type(0x3b3b3b3b63617020L, 4), 4);
        Due.due("type 2 of 8", x.type(0x3b3b3b3b3b3b3737L, 2), 6);
        Due.due("type 1 of 8", x.type(-197L, 1), 7);
        Due.due("rule()", x.rule(), 1);
        Due.due("told(4)", x.told(4), 77);
        Due.due("type 8", x.type(0x6f76657220203132L, 8), 8);
        Due.due("type 1", x.type(0x3bL, 1), 9);
        Due.due("rule()", x.rule(), 1);
        Due.due("told(5)", x.told(5), 12);
    }

    private static void typeEdges() {
        EvenStride x = new EvenStride();
        int[] wrong = {Integer.MIN_VALUE, -1, 0, 9, 64, Integer.MAX_VALUE};
        for (int n : wrong) {
            Due.due("type(32, " + n + ")", x.type(32, n), EvenStride.BAD);
        }
        Due.due("count(2) is 0 still", x.count(2), 0);
        for (int k = 1; k <= 24; k++) {
            Due.due("type 8 more", x.type(0x2020202020202020L, 8), 8 * k);
        }
        Due.due("type 7 more", x.type(0x2020202020202020L, 7), 199);
        Due.due("type 2 where 1 is left", x.type(0x2020L, 2), EvenStride.FULL);
        Due.due("type 9 where 1 is left", x.type(0x2020L, 9), EvenStride.BAD);
        Due.due("count(2)", x.count(2), 199);
        Due.due("type 1 where 1 is left", x.type(0x20L, 1), 200);
        Due.due("type 1 where none is left", x.type(0x20L, 1), EvenStride.FULL);
        Due.due("type 0 where none is left", x.type(0x20L, 0), EvenStride.BAD);
        Due.due("count(2)", x.count(2), 200);
        Due.due("rule() of 200 blanks", x.rule(), 0);
        Due.due("count(2) then", x.count(2), 0);
    }

    private static void clear() {
        EvenStride x = new EvenStride();
        Due.due("clear() of nothing", x.clear(), 0);
        Due.typed(x, "nonsense");
        Due.due("clear()", x.clear(), 8);
        Due.due("clear() again", x.clear(), 0);
        Due.due("count(2)", x.count(2), 0);
        Due.typed(x, "cap 5;");
        Due.due("rule() has nothing of what was cleared", x.rule(), 1);
    }

    private static void rulesTold() {
        check("", 0, 1, 1, 1, 1, 200, 200);
        check("   ", 0, 1, 1, 1, 1, 200, 200);
        check("best 2 of 3;", 1, 2, 3, 1, 1, 200, 200);
        check("best 12 of 12;", 1, 12, 12, 1, 1, 200, 200);
        check("best 1 of 12;", 1, 1, 12, 1, 1, 200, 200);
        check("move 20/20;", 1, 1, 1, 20, 20, 200, 200);
        check("move 1 / 20 ;", 1, 1, 1, 1, 20, 200, 200);
        check("cap 0;", 1, 1, 1, 1, 1, 0, 200);
        check("cap 200;", 1, 1, 1, 1, 1, 200, 200);
        check("over 0;", 1, 1, 1, 1, 1, 200, 0);
        check("over 200 ;  ", 1, 1, 1, 1, 1, 200, 200);
        check("over 4;cap 9;move 3/7;best 5 of 6;", 4, 5, 6, 3, 7, 9, 4);
        check("  best5of6 ;move3/7;cap9;over  4;", 4, 5, 6, 3, 7, 9, 4);
    }

    private static void check(String text, int items, int... told) {
        EvenStride x = new EvenStride();
        Due.due("rule() of '" + text + "'", Due.ruled(x, text), items);
        Due.due("count(2) behind '" + text + "'", x.count(2), 0);
        for (int what = 0; what < 6; what++) {
            Due.due("'" + text + "': told(" + what + ")", x.told(what), told[what]);
        }
    }

    private static void faults() {
        Object[] texts = {
            ";", 0, "cap", 3, "cap ", 4, "cap 5", 5, "cap 5  ", 7, "cap;", 3, "cap x;", 4, "cap /;", 4,
            "cap 05;", 4, "cap 00;", 4, "cap 201;", 4, "cap 999;", 4, "cap 1000;", 4,
            "cap 4294967297;", 4, "cap 18446744073709551617;", 4, "cap 5;;", 6, "cap 5,", 5, "cap 5 5;", 6,
            "cap 5/;", 5, "cap -5;", 4, "capp 5;", 0, "ca 5;", 0, "xcap 5;", 0, "Cap 5;", 0, "cAp 5;", 0,
            "xbest 1 of 1;", 0, "overbest 1 of 1;", 0, "best 0 of 1;", 5, "best 13 of 13;", 5,
            "best 12 of 13;", 11, "best 5 of 4;", 10, "best 5 of 0;", 10, "best 5 off 4;", 7, "best 5 4;", 7,
            "best 5/4;", 6, "best of 4;", 5, "best 5 of;", 9, "best 5 of 6", 11, "best", 4, "best 5 of", 9,
            "move 21/21;", 5, "move 20/21;", 8, "move 0/1;", 5, "move 2/1;", 7, "move 1/0;", 7, "move 1 1;", 7,
            "move 1/1/1;", 8, "move 1", 6, "move 1/", 7, "over 201;", 5, "over 1;over 2;", 7,
            "best 1 of 1; best 1 of 1;", 13, "move 1/1;  move 1/1;", 11, "cap 1;cap 1;", 6,
            "best 1 of 1;cap 1;move 1/1;over 1;cap 1;", 34, "best 1 of 1;cap 1;move 1/1;over 1;x", 34,
            "of 1;", 0, " of 1;", 1, "5;", 0, "/", 0, "cap 1; over", 11, "cap 1;best 3 of 2; ?", 16,
            "cap 5;over 5 bests", 13, "cap 007;", 4, "cap 5a;", 5, "capz 5;", 0, "capa 5;", 0, "zcap 5;", 0, "cap 5z", 5,
        };
        for (int k = 0; k < texts.length; k += 2) {
            String text = (String) texts[k];
            Due.due("rule() of '" + text + "'", Due.ruled(new EvenStride(), text), -10 - (Integer) texts[k + 1]);
        }
    }

    private static void strangeBytes() {
        for (int one = 0; one < 256; one++) {
            boolean blank = one == 32;
            String text = "cap 5;" + (char) one;
            Due.due("rule() with byte " + one, Due.ruled(new EvenStride(), text), blank ? 1 : -16);
        }
        Due.due("a byte of no token within an item", Due.ruled(new EvenStride(), "cap\t5;"), -13);
        Due.due("a byte behind a word", Due.ruled(new EvenStride(), "best\u00e9 1 of 1;"), -14);
    }

    private static void faultChangesNothing() {
        EvenStride x = new EvenStride();
        Due.due("a rule", Due.ruled(x, "best 2 of 3;cap 50;"), 2);
        Due.due("a fault at its end", Due.ruled(x, "over 9;move 2/3;cap 5"), -31);
        Due.due("the same again", x.rule(), -31);
        int[] told = {2, 3, 1, 1, 50, 200};
        for (int what = 0; what < 6; what++) {
            Due.due("told(" + what + ") stays", x.told(what), told[what]);
        }
        Due.due("count(2) stays", x.count(2), 21);
        x.type(';', 1);
        Due.due("mended", x.rule(), 3);
        Due.due("mended: told(4)", x.told(4), 5);
        Due.due("mended: told(0)", x.told(0), 1);
    }

    private static void untoldIsAsAtFirst() {
        EvenStride x = new EvenStride();
        Due.ruled(x, "best 2 of 3;move 1/2;cap 50;over 7;");
        Due.due("rule() of another", Due.ruled(x, "over 8;"), 1);
        int[] told = {1, 1, 1, 1, 200, 8};
        for (int what = 0; what < 6; what++) {
            Due.due("told(" + what + ")", x.told(what), told[what]);
        }
        Due.due("rule() of nothing", x.rule(), 0);
        for (int what = 0; what < 6; what++) {
            Due.due("told(" + what + ") of nothing", x.told(what), AT_FIRST[what]);
        }
    }

    private static void longest() {
        EvenStride x = new EvenStride();
        for (int k = 0; k < 194; k++) {
            x.type(' ', 1);
        }
        Due.typed(x, "cap 12");
        Due.due("an item cut off at 200 bytes", x.rule(), -210);
        // a new one each time, for an object is promised for 512 calls only
        x = new EvenStride();
        for (int k = 0; k < 200; k++) {
            x.type('1', 1);
        }
        Due.due("a number of 200 bytes", x.rule(), -10);
        x = new EvenStride();
        for (int k = 0; k < 200; k++) {
            x.type('b', 1);
        }
        Due.due("a word of 200 bytes", x.rule(), -10);
    }

    private static void told() {
        EvenStride x = new EvenStride();
        int[] wrong = {Integer.MIN_VALUE, -1, 6, 7, Integer.MAX_VALUE};
        for (int what : wrong) {
            Due.due("told(" + what + ")", x.told(what), EvenStride.BAD);
        }
    }

    private static final String[] PIECES = {
        "best", "of", "move", "cap", "over", "/", ";", "1", "2", "3", "12", "13", "20", "21", "200", "201",
        "0", "00", "07", "999", "1000", "x", "?", "best 2 of 4;", "move 1/2;", "cap 3;", "over 5;", "\u00ff",
    };

    private static void randomTexts() {
        Random random = new Random(20261116);
        for (int k = 0; k < 30000; k++) {
            String text = randomText(random);
            EvenStride x = new EvenStride();
            int[] told = AT_FIRST.clone();
            int want = new PlainReader(text, told).answer();
            Due.due("rule() of '" + text + "'", Due.ruled(x, text), want);
            for (int what = 0; what < 6; what++) {
                Due.due("'" + text + "': told(" + what + ")", x.told(what), want < 0 ? AT_FIRST[what] : told[what]);
            }
            Due.due("count(2) of '" + text + "'", x.count(2), want < 0 ? text.length() : 0);
        }
    }

    static String randomText(Random random) {
        StringBuilder text = new StringBuilder();
        int items = random.nextInt(5);
        for (int k = 0; k < items; k++) {
            switch (random.nextInt(5)) {
                case 0: text.append("best " + random.nextInt(14) + " of " + random.nextInt(14) + ";"); break;
                case 1: text.append("move " + random.nextInt(22) + "/" + random.nextInt(22) + ";"); break;
                case 2: text.append("cap " + random.nextInt(210) + " ;"); break;
                case 3: text.append(" over " + random.nextInt(210) + ";"); break;
                default: text.append(PIECES[random.nextInt(PIECES.length)]); break;
            }
        }
        if (random.nextInt(3) == 0 && text.length() > 0) {
            int at = random.nextInt(text.length());
            text.replace(at, Math.min(text.length(), at + random.nextInt(3)), PIECES[random.nextInt(PIECES.length)]);
        }
        return text.length() > 200 ? text.substring(0, 200) : text.toString();
    }
}
