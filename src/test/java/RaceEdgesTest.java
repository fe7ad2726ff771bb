import java.math.BigInteger;

/** What the document says of edges in A RACE and in promises 12 to 14, a sentence a method. */
public final class RaceEdgesTest {
    private static final int LEAST = Integer.MIN_VALUE, MOST = Integer.MAX_VALUE;
    private static final int BAD = EvenStride.BAD, NO = EvenStride.NO;

    public static void main(String[] args) {
        raceOfTwoToEight();
        raceOfOneThatIsNotThere();
        raceOnAGround();
        weightsAboveTheLeast();
        lotGoesOn();
        lotGoesOnForEach();
        luckByBits();
        luckOfSpreadZero();
        firstIsTheGreatest();
        firstOfSeveral();
        figureIsShownAndWeight();
        lastNFigures();
        bestKFigures();
        overT();
        overTOfSeveral();
        sumRoundedDown();
        sumBelowZeroRoundedDown();
        moveRoundedTowardZero();
        capUpOrDown();
        markWithinBounds();
        onlyThoseInItMove();
        thenItGrows();
        shownWhat();
        shownOfTheLatest();
        weight();
        Due.end("RaceEdgesTest");
    }

    private static void raceOfTwoToEight() {
        Due.sentence("A RACE on a GROUND of some RUNNERS (2 .. 8)");
        Unchanged.byEach("race(0, #) of fewer than 2", Sample::three, (x, v) -> x.race(0, v), BAD, 0, 1, 2, 4);
        Unchanged.byEach("race(0, #) of one of eight", Sample::eight, (x, v) -> x.race(0, v), BAD, 0, 1, 64, 128);
        int set = 1;
        for (int size = 2; size <= 8; size++) {
            set = set << 1 | 1;
            EvenStride x = Sample.luckless(10, 10, 10, 10, 10, 10, 10, 10);
            Due.due("race of the first " + size, x.race(0, set), 0);
            Due.due("the last of them ran", x.about(size - 1, 4), 1);
            Due.due("the next did not", x.about(size, 4), size == 8 ? NO : 0);
            Due.due("a race more", x.count(1), 1);
        }
        EvenStride x = Sample.luckless(10, 10, 10, 10, 10, 10, 10, 10);
        Due.due("race of the first and the last", x.race(0, 129), 0);
        Due.due("race of the last two", x.race(0, 192), 6);
        Due.due("two races more", x.count(1), 2);
    }

    private static void raceOfOneThatIsNotThere() {
        Due.sentence("BAD: fewer than 2, or one that is not there, too.");
        Unchanged.byEach("race(0, #) of three", Sample::three, (x, v) -> x.race(0, v), BAD,
            8, 9, 11, 15, 16, 255, 256, 1 << 30, LEAST, LEAST + 3, LEAST + 7, MOST, -1, -8);
        Unchanged.byEach("race(0, #) of eight", Sample::eight, (x, v) -> x.race(0, v), BAD,
            256, 257, 259, 511, 512, LEAST, LEAST + 3, LEAST + 255, MOST, -1);
        Due.due("race of all three", Sample.luckless(5, 5, 5).race(0, 7), 0);
        Due.due("race of all eight", Sample.luckless(5, 5, 5, 5, 5, 5, 5, 5).race(0, 255), 0);
    }

    private static void raceOnAGround() {
        Due.sentence("TURN for GROUNDS 0, 1, 2");
        Unchanged.byEach("race(#, 7)", Sample::three, (x, v) -> x.race(v, 7), BAD, -1, 3, 4, 32, LEAST, MOST);
        for (int ground = 0; ground < 3; ground++) {
            EvenStride x = Sample.luckless(10, 10);
            x.set(1, ground + 2, 1);
            Due.due("race(" + ground + ", 3)", x.race(ground, 3), 1);
        }
    }

    private static void weightsAboveTheLeast() {
        Due.sentence("WEIGHTS: of each its MARK less the least MARK of these");
        EvenStride x = Sample.luckless(100, 100, 100);
        x.set(0, 5, 0);
        x.set(1, 5, 200);
        Due.ruled(x, "cap 0;");
        x.race(0, 7);
        Due.due("of 0", x.shown(0, 1), 0);
        Due.due("of 200", x.shown(1, 1), 200);
        Due.due("of 100", x.shown(2, 1), 100);
        x.race(0, 6);
        Due.due("of 200 without the least", x.shown(1, 1), 100);
        Due.due("of 100, now the least", x.shown(2, 1), 0);
        x.set(1, 5, 101);
        x.race(0, 6);
        Due.due("one above the least", x.shown(1, 1), 1);
        x.set(1, 5, 100);
        x.race(0, 6);
        Due.due("both the least", x.shown(1, 1), 0);
        Due.due("both the least", x.shown(2, 1), 0);
    }

    private static int lotBehind(int lot, int steps) {
        BigInteger all = BigInteger.ONE.shiftLeft(32);
        BigInteger v = BigInteger.valueOf(lot);
        for (int k = 0; k < steps; k++) {
            v = v.multiply(BigInteger.valueOf(1103515245)).add(BigInteger.valueOf(12345)).mod(all);
        }
        return v.intValue();
    }

    private static void lotGoesOn() {
        Due.sentence("the LOT goes on: LOT times 1103515245 and 12345, wrapped");
        for (int lot : new int[] {0, 1, -1, 2, MOST, LEAST, LEAST + 1, MOST - 1, 65535, 65536, -65536}) {
            EvenStride x = new EvenStride();
            x.runner(50);
            x.runner(50);
            x.lot(lot);
            x.race(0, 3);
            Due.due("from " + lot, x.count(3), lotBehind(lot, 2));
            x.race(0, 3);
            Due.due("and on from " + lot, x.count(3), lotBehind(lot, 4));
        }
    }

    private static void lotGoesOnForEach() {
        Due.sentence("LUCK: for each, by their numbers, the LOT goes on");
        for (int set : new int[] {3, 129, 192, 255, 170}) {
            EvenStride x = new EvenStride();
            for (int i = 0; i < 8; i++) {
                x.runner(50);
            }
            x.tune(0, 5);
            x.lot(2026);
            x.race(0, set);
            int steps = 0;
            for (int i = 0; i < 8; i++) {
                if ((set >> i & 1) == 1) {
                    steps++;
                    Due.due("luck of " + i + " of " + set, x.shown(i, 2), (lotBehind(2026, steps) >>> 16) % 11 - 5);
                } else {
                    Due.due("not in it: " + i, x.shown(i, 2), NO);
                }
            }
            Due.due("the lot behind " + set, x.count(3), lotBehind(2026, steps));
        }
    }

    /** The LOT from which a wanted one comes. */
    private static int lotAhead(int next) {
        int inverse = 1103515245;
        for (int k = 0; k < 5; k++) {
            inverse *= 2 - 1103515245 * inverse;
        }
        return (next - 12345) * inverse;
    }

    private static void luckByBits() {
        Due.sentence("its bits 16 on, left over by twice SPREAD and 1 (0 or more), less SPREAD");
        for (int spread = 0; spread <= 5; spread++) {
            int lucks = 2 * spread + 1;
            for (int bits : new int[] {0, 1, lucks - 1, lucks, lucks + 1, 32766, 32767, 32768, 32769, 65534, 65535}) {
                for (int low : new int[] {0, 65535}) {
                    EvenStride x = new EvenStride();
                    x.runner(50);
                    x.runner(50);
                    x.tune(0, spread);
                    x.lot(lotAhead(bits << 16 | low));
                    x.race(0, 3);
                    int luck = bits % lucks - spread;
                    Due.due("bits " + bits + " by " + lucks, x.shown(0, 2), luck);
                    Due.due("SHOWN has it", x.shown(0, 0), 50 + luck);
                    Due.due("and so has the FIGURE", x.figure(0, 0), 50 + luck);
                }
            }
        }
    }

    private static void luckOfSpreadZero() {
        Due.sentence("SPREAD (0 .. 5; 2 at first)");
        EvenStride x = Sample.luckless(50, 50);
        x.lot(99);
        for (int race = 1; race <= 20; race++) {
            x.race(0, 3);
            Due.due("no luck", x.shown(0, 2), 0);
            Due.due("no luck", x.shown(1, 2), 0);
            Due.due("the lot goes on all the same", x.count(3), lotBehind(99, 2 * race));
        }
    }

    private static void firstIsTheGreatest() {
        Due.sentence("FIRST is the greatest SHOWN");
        for (int by : new int[] {-1, 0, 1}) {
            for (int who = 0; who < 8; who++) {
                EvenStride x = Sample.luckless(50, 50, 50, 50, 50, 50, 50, 50);
                x.set(who, 2, by);
                Due.due(by + " for " + who, x.race(0, 255), by > 0 ? who : by < 0 && who == 0 ? 1 : 0);
            }
        }
        EvenStride below = Sample.luckless(0, 0, 0);
        below.set(0, 2, -3);
        below.set(1, 2, -2);
        below.set(2, 2, -3);
        Due.due("all below 0", below.race(0, 7), 1);
        EvenStride again = Sample.luckless(0, 0, 0);
        again.set(1, 2, 20);
        Due.due("1 is ahead of 2", again.race(0, 6), 1);
        again.set(0, 2, -3);
        again.set(1, 2, -4);
        again.set(1, 5, 0);
        Due.due("all below 0, by what the two show now", again.race(0, 3), 0);
    }

    private static void firstOfSeveral() {
        Due.sentence("of several the least number");
        for (int set = 3; set < 256; set++) {
            if (Integer.bitCount(set) >= 2) {
                EvenStride x = Sample.luckless(50, 50, 50, 50, 50, 50, 50, 50);
                Due.due("all alike of " + set, x.race(0, set), Integer.numberOfTrailingZeros(set));
            }
        }
        EvenStride x = Sample.luckless(50, 51, 51);
        Due.due("the weights make all alike", x.race(0, 7), 0);
        EvenStride y = Sample.luckless(50, 50, 50, 50);
        y.set(1, 2, 1);
        y.set(3, 2, 1);
        Due.due("two alike ahead", y.race(0, 15), 1);
    }

    private static void figureIsShownAndWeight() {
        Due.sentence("FIGURE: SHOWN and WEIGHT.");
        EvenStride x = Sample.luckless(0, 200);
        x.set(0, 5, 200);
        x.set(1, 5, 0);
        x.set(0, 2, -20);
        x.set(1, 2, 20);
        x.race(0, 3);
        Due.due("shown(0, 0)", x.shown(0, 0), -220);
        Due.due("figure(0, 0)", x.figure(0, 0), -20);
        Due.due("shown(1, 0)", x.shown(1, 0), 220);
        Due.due("figure(1, 0)", x.figure(1, 0), 220);
        EvenStride y = Sample.three();
        y.race(2, 7);
        for (int i = 0; i < 3; i++) {
            Due.due("figure of " + i, y.figure(i, 0), y.shown(i, 0) + y.shown(i, 1));
        }
    }

    /**
     * The new MARK of one of a strength that ran these FIGURES (each within 20 of
     * its strength) by a rule, its MARK being old ahead of the last of them.
     */
    private static int markBy(String rule, int strength, int old, int... figures) {
        EvenStride x = Sample.luckless(strength, 100);
        Due.ruled(x, rule);
        for (int k = 0; k < figures.length; k++) {
            x.set(0, 2, figures[k] - strength);
            if (k == figures.length - 1) {
                x.set(0, 5, old);
            }
            x.race(0, 3);
        }
        return x.about(0, 1);
    }

    private static void mark(String rule, int old, int due, int... figures) {
        Due.due("'" + rule + "' from " + old + " by " + java.util.Arrays.toString(figures),
            markBy(rule, 100, old, figures), due);
    }

    private static void lastNFigures() {
        Due.sentence("of its last N FIGURES (all, if they are fewer)");
        mark("best 1 of 1;", 100, 110, 110);
        mark("best 1 of 1;", 100, 90, 110, 90);
        mark("best 1 of 2;", 100, 110, 110);
        mark("best 1 of 2;", 100, 110, 110, 90);
        mark("best 1 of 2;", 100, 91, 110, 90, 91);
        mark("best 1 of 3;", 100, 110, 110, 90, 91);
        mark("best 1 of 3;", 100, 92, 110, 90, 91, 92);
        mark("best 1 of 11;", 100, 110, 110, 90, 90, 90, 90, 90, 90, 90, 90, 90, 90);
        mark("best 1 of 11;", 100, 90, 110, 90, 90, 90, 90, 90, 90, 90, 90, 90, 90, 90);
        mark("best 1 of 12;", 100, 110, 110, 90, 90, 90, 90, 90, 90, 90, 90, 90, 90, 90);
        mark("best 1 of 12;", 100, 90, 110, 90, 90, 90, 90, 90, 90, 90, 90, 90, 90, 90, 90);
    }

    private static void bestKFigures() {
        Due.sentence("the best K (all, if they are fewer)");
        mark("best 1 of 3;", 100, 106, 102, 106, 104);
        mark("best 2 of 3;", 100, 102, 102);
        mark("best 2 of 3;", 100, 104, 102, 106);
        mark("best 2 of 3;", 100, 105, 102, 106, 104);
        mark("best 3 of 3;", 100, 104, 102, 106);
        mark("best 3 of 3;", 100, 104, 102, 106, 104);
        mark("best 3 of 3;", 100, 106, 102, 106, 104, 108);
        mark("best 2 of 3;", 100, 106, 106, 106, 106);
        mark("best 2 of 4;", 100, 107, 106, 100, 106, 108);
        mark("best 12 of 12;", 100, 101, 112, 100, 100, 100, 100, 100, 100, 100, 100, 100, 100, 100);
        mark("best 12 of 12;", 100, 100, 112, 100, 100, 100, 100, 100, 100, 100, 100, 100, 100, 100, 100);
        mark("best 11 of 12;", 100, 101, 89, 101, 101, 101, 101, 101, 101, 101, 101, 101, 101, 101);
    }

    private static void overT() {
        Due.sentence("those more than T above the old MARK counted as the old MARK and T");
        mark("over 5;", 100, 104, 104);
        mark("over 5;", 100, 105, 105);
        mark("over 5;", 100, 105, 106);
        mark("over 5;", 100, 105, 120);
        mark("over 5;", 100, 80, 80);
        mark("over 0;", 100, 99, 99);
        mark("over 0;", 100, 100, 100);
        mark("over 0;", 100, 100, 101);
        mark("over 1;", 100, 101, 101);
        mark("over 1;", 100, 101, 102);
        mark("", 0, 100, 100);
        mark("over 99;", 0, 99, 100);
        mark("over 100;", 0, 100, 100);
    }

    private static void overTOfSeveral() {
        Due.sentence("those more than T above the old MARK counted as the old MARK and T");
        mark("best 2 of 2;over 5;", 100, 105, 120, 120);
        mark("best 2 of 2;over 5;", 100, 102, 120, 100);
        mark("best 2 of 2;over 5;", 110, 107, 120, 100);
        mark("best 2 of 2;over 5;", 120, 110, 120, 100);
        mark("best 1 of 2;over 5;", 100, 105, 120, 100);
        Due.due("over 200: 200 and 180 from 0", markBy("best 2 of 2;", 200, 0, 200, 180), 190);
        Due.due("over 200: 202 and 180 from 0", markBy("best 2 of 2;", 200, 0, 202, 180), 190);
        Due.due("over 200: 220 and 180 from 1", markBy("best 2 of 2;", 200, 1, 220, 180), 190);
        Due.due("over 200: 220 and 180 from 2", markBy("best 2 of 2;", 200, 2, 220, 180), 191);
        Due.due("over 199: 200 and 180 from 0", markBy("best 2 of 2;over 199;", 200, 0, 200, 180), 189);
        EvenStride x = Sample.luckless(100, 100);
        Due.ruled(x, "over 5;");
        x.set(0, 2, 20);
        x.race(0, 3);
        Due.due("the figure is kept as it was shown", x.figure(0, 0), 120);
        x.race(0, 3);
        Due.due("counted by the mark of each time", x.about(0, 1), 110);
    }

    private static void sumRoundedDown() {
        Due.sentence("their sum by how many they are, rounded down, is AIM");
        mark("best 2 of 2;", 100, 100, 100, 100);
        mark("best 2 of 2;", 100, 100, 100, 101);
        mark("best 2 of 2;", 100, 101, 101, 101);
        mark("best 2 of 2;", 100, 99, 99, 100);
        mark("best 3 of 3;", 100, 100, 100, 100, 101);
        mark("best 3 of 3;", 100, 100, 100, 101, 101);
        mark("best 3 of 3;", 100, 101, 101, 101, 101);
        mark("best 12 of 12;", 100, 100, 111, 100, 100, 100, 100, 100, 100, 100, 100, 100, 100, 100);
        mark("best 12 of 12;", 100, 101, 112, 100, 100, 100, 100, 100, 100, 100, 100, 100, 100, 100);
    }

    /** By move 1 / 20 from 10 an AIM of -10 takes 1 from the MARK and one of -9 takes none. */
    private static void sumBelowZeroRoundedDown() {
        Due.sentence("their sum by how many they are, rounded down, is AIM");
        String rule = "best 2 of 2;move 1/20;";
        Due.due("-10 and -10", markBy(rule, 10, 10, -10, -10), 9);
        Due.due("-10 and -9", markBy(rule, 10, 10, -10, -9), 9);
        Due.due("-9 and -9", markBy(rule, 10, 10, -9, -9), 10);
        Due.due("-10 and -8", markBy(rule, 10, 10, -10, -8), 10);
    }

    private static void moveRoundedTowardZero() {
        Due.sentence("the MARK moves by A (AIM less MARK) by B, rounded toward 0");
        int[] half = {97, 99, 98, 99, 99, 100, 100, 100, 101, 100, 102, 101, 103, 101};
        for (int k = 0; k < half.length; k += 2) {
            mark("move 1/2;", 100, half[k + 1], half[k]);
        }
        int[] thirds = {97, 98, 98, 99, 99, 100, 100, 100, 101, 100, 102, 101, 103, 102, 104, 102};
        for (int k = 0; k < thirds.length; k += 2) {
            mark("move 2/3;", 100, thirds[k + 1], thirds[k]);
        }
        int[] least = {80, 99, 81, 100, 119, 100, 120, 101};
        for (int k = 0; k < least.length; k += 2) {
            mark("move 1/20;", 100, least[k + 1], least[k]);
        }
        for (int figure : new int[] {80, 99, 100, 101, 120}) {
            mark("move 20/20;", 100, figure, figure);
            mark("move 1/1;", 100, figure, figure);
        }
        mark("move 19/20;", 100, 81, 80);
        mark("move 19/20;", 100, 100, 99);
        mark("move 19/20;", 100, 100, 101);
        mark("move 19/20;", 100, 119, 120);
    }

    private static void capUpOrDown() {
        Due.sentence("C at most up or down");
        int[] rows = {93, 95, 94, 95, 95, 95, 96, 96, 100, 100, 104, 104, 105, 105, 106, 105, 107, 105};
        for (int k = 0; k < rows.length; k += 2) {
            mark("cap 5;", 100, rows[k + 1], rows[k]);
        }
        for (int figure : new int[] {80, 99, 100, 101, 120}) {
            mark("cap 0;", 100, 100, figure);
        }
        mark("cap 1;", 100, 101, 101);
        mark("cap 1;", 100, 101, 102);
        mark("cap 1;", 100, 99, 99);
        mark("cap 1;", 100, 99, 98);
        mark("cap 5;move 1/2;", 100, 105, 110);
        mark("cap 5;move 1/2;", 100, 105, 112);
        mark("cap 5;move 1/2;", 100, 95, 88);
        Due.due("up by all of 200", markBy("cap 200;", 200, 0, 200), 200);
        Due.due("up by 199", markBy("cap 199;", 200, 0, 200), 199);
        Due.due("down by all of 200", markBy("cap 200;", 0, 200, 0), 0);
        Due.due("down by 199", markBy("cap 199;", 0, 200, 0), 1);
    }

    private static void markWithinBounds() {
        Due.sentence("0 .. 200. Then it GROWS.");
        int[] above = {199, 199, 200, 200, 201, 200, 220, 200};
        for (int k = 0; k < above.length; k += 2) {
            Due.due("up to " + above[k], markBy("", 200, 190, above[k]), above[k + 1]);
            Due.due("at 200, by " + above[k], markBy("", 200, 200, above[k]), above[k + 1]);
        }
        int[] below = {1, 1, 0, 0, -1, 0, -20, 0};
        for (int k = 0; k < below.length; k += 2) {
            Due.due("down to " + below[k], markBy("", 0, 10, below[k]), below[k + 1]);
            Due.due("at 0, by " + below[k], markBy("", 0, 0, below[k]), below[k + 1]);
        }
        Due.due("at 200 there is no more to move by", markBy("move 1/20;", 200, 200, 220), 200);
        Due.due("at 0 there is no more to move by", markBy("move 1/20;", 0, 0, -20), 0);
    }

    private static void onlyThoseInItMove() {
        Due.sentence("Then each gets its new MARK");
        EvenStride x = Sample.luckless(100, 100, 100);
        for (int i = 0; i < 3; i++) {
            x.set(i, 5, 50);
        }
        x.race(0, 5);
        Due.due("0 ran", x.about(0, 1), 100);
        Due.due("1 did not", x.about(1, 1), 50);
        Due.due("2 ran", x.about(2, 1), 100);
        Due.due("1 has no figure", x.about(1, 5), 0);
        Due.due("1 ran in none", x.about(1, 4), 0);
    }

    private static void thenItGrows() {
        Due.sentence("Then it GROWS.");
        EvenStride x = Sample.luckless(100, 100);
        x.set(0, 1, 9);
        x.set(1, 1, -9);
        for (int race = 0; race < 3; race++) {
            x.race(0, 3);
            Due.due("mark by the strength ahead of it", x.about(0, 1), 100 + 9 * race);
            Due.due("strength behind it", x.about(0, 0), 109 + 9 * race);
            Due.due("mark of one that sinks", x.about(1, 1), 100 - 9 * race);
            Due.due("strength of one that sinks", x.about(1, 0), 91 - 9 * race);
        }
    }

    private static void shownWhat() {
        Due.sentence("SHOWN of a RUNNER in the latest RACE (what = 0), its WEIGHT there (1), LUCK (2). NO: BAD");
        Unchanged.byEach("shown(0, #)", Sample::three, (x, v) -> x.shown(0, v), NO, -1, 3, 32, LEAST, MOST);
        Unchanged.byEach("shown(#, 0)", Sample::three, (x, v) -> x.shown(v, 0), NO, -1, 3, 7, 8, 31, 32, 33, LEAST, MOST);
        Unchanged.byEach("shown(#, 0)", Sample::eight, (x, v) -> x.shown(v, 0), NO, -1, 8, 32, 33);
        EvenStride x = Sample.luckless(100, 90);
        x.race(0, 3);
        int[] due = {90, 10, 0};
        for (int what = 0; what < 3; what++) {
            Due.due("shown(0, " + what + ")", x.shown(0, what), due[what]);
        }
    }

    private static void shownOfTheLatest() {
        Due.sentence("NO: BAD, or it was not in it.");
        EvenStride x = Sample.luckless(100, 90, 80);
        Due.due("ahead of all races", x.shown(0, 0), NO);
        x.race(0, 3);
        Due.due("it was in it", x.shown(0, 0), 90);
        Due.due("it was in it", x.shown(1, 0), 90);
        Due.due("it was not in it", x.shown(2, 0), NO);
        Due.due("one that comes later", x.runner(70), 3);
        Due.due("was not in it", x.shown(3, 0), NO);
        x.race(3, 12);
        x.race(0, 8);
        Due.due("a race refused is not the latest", x.shown(0, 0), 90);
        Due.due("none of it was", x.shown(2, 0), NO);
        x.set(0, 5, 7);
        x.set(0, 2, 9);
        Due.due("what is set later was not shown", x.shown(0, 0), 90);
        Due.due("nor was its weight", x.shown(0, 1), 10);
        x.race(0, 12);
        Due.due("it was not in the latest", x.shown(0, 0), NO);
        Due.due("it was not in the latest", x.shown(1, 2), NO);
        Due.due("it was in the latest", x.shown(2, 1), 10);
        Due.due("it was in the latest", x.shown(3, 1), 0);
    }

    private static void weight() {
        Due.sentence("WEIGHT of a RUNNER, were a set of RUNNERS to race now. BAD: it is not of them, too.");
        Unchanged.by("weight(0, 6): not of them", Sample::three, x -> x.weight(0, 6), BAD);
        Unchanged.by("weight(2, 3): not of them", Sample::three, x -> x.weight(2, 3), BAD);
        Unchanged.byEach("weight(#, 7)", Sample::three, (x, v) -> x.weight(v, 7), BAD, -1, 3, 7, 8, 32, 33, LEAST, MOST);
        Unchanged.byEach("weight(#, 255)", Sample::eight, (x, v) -> x.weight(v, 255), BAD, -1, 8, 32);
        Unchanged.byEach("weight(0, #)", Sample::three, (x, v) -> x.weight(0, v), BAD,
            0, 1, 2, 8, 9, 11, 15, 256, 257, LEAST, LEAST + 3, MOST, -1);
        Unchanged.byEach("weight(0, #) of eight", Sample::eight, (x, v) -> x.weight(0, v), BAD, 1, 257, 259, 511, -1);
        EvenStride x = Sample.luckless(200, 0, 199, 200);
        Due.due("200 above 0", x.weight(0, 3), 200);
        Due.due("0 above itself", x.weight(1, 3), 0);
        Due.due("1 above 199", x.weight(0, 5), 1);
        Due.due("200 beside 200", x.weight(0, 9), 0);
        Due.due("200 beside 200", x.weight(3, 9), 0);
        Due.due("the last of four", x.weight(3, 15), 200);
        EvenStride moved = Sample.luckless(100, 90);
        moved.set(0, 2, 10);
        moved.race(0, 3);
        Due.due("by the marks of now", moved.weight(0, 3), 20);
        Due.due("not by those of the latest race", moved.shown(0, 1), 10);
        EvenStride y = Sample.three();
        Unchanged.by("weight(0, 3) only asks", Sample::three, z -> z.weight(0, 3), y.weight(0, 3));
    }
}
