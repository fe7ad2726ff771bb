import java.util.Random;

/** Promises 15 to 19: odds, close, even, good, behind. */
public final class OddsTest {
    public static void main(String[] args) {
        oddsOfTwoAlike();
        oddsByHabitGroundWeight();
        oddsOfEight();
        oddsRefuse();
        oddsByAllRows();
        evenOfTwo();
        evenRefuses();
        evenByAllWeights();
        askingChangesNothing();
        good();
        goodRefuses();
        behind();
        behindRefuses();
        Due.end("OddsTest");
    }

    private static EvenStride of(int spread, int... strengths) {
        EvenStride x = new EvenStride();
        x.tune(0, spread);
        for (int strength : strengths) {
            x.runner(strength);
        }
        return x;
    }

    private static void oddsOfTwoAlike() {
        EvenStride x = of(1, 70, 70);
        Due.due("odds(0, 3, -1)", x.odds(0, 3, -1), 9);
        Due.due("odds(0, 3, 0): ties are its own", x.odds(0, 3, 0), 6);
        Due.due("odds(0, 3, 1)", x.odds(0, 3, 1), 3);
        Due.due("close(0, 3)", x.close(0, 3), 6);
        Due.due("close(0, 3) with nothing asked before", of(1, 70, 70).close(0, 3), 6);
        Due.due("odds(0, 3, 1) with nothing asked before", of(1, 70, 70).odds(0, 3, 1), 3);
        Due.due("even(0, 3, -1) with nothing asked before", of(1, 70, 70).even(0, 3, -1), 6);
        EvenStride sure = of(0, 70, 70, 70);
        Due.due("spread 0: odds(0, 7, -1)", sure.odds(0, 7, -1), 1);
        Due.due("spread 0: odds(0, 7, 0)", sure.odds(0, 7, 0), 1);
        Due.due("spread 0: odds(0, 7, 2)", sure.odds(0, 7, 2), 0);
        Due.due("spread 0: close(0, 7)", sure.close(0, 7), 4);
    }

    private static void oddsByHabitGroundWeight() {
        EvenStride x = of(1, 90, 70);
        Due.due("weights make them alike", x.odds(2, 3, 0), 6);
        x.set(1, 4, 1);
        Due.due("1 more on ground 2", x.odds(2, 3, 0), 3);
        Due.due("as before on ground 1", x.odds(1, 3, 0), 6);
        x.set(0, 0, 1);
        x.tune(1, 2);
        Due.due("0 eases by 2", x.odds(1, 3, 0), 1);
        x.set(0, 0, 2);
        x.tune(2, 1);
        Due.due("0 pulls by 1", x.odds(1, 3, 0), 3);
        Due.due("0 pulls by 1: close", x.close(1, 3), 6);
        x.set(0, 0, 0);
        x.set(0, 5, 92);
        Due.due("2 more of weight", x.odds(0, 3, 0), 1);
        Due.due("2 more of weight: the other", x.odds(0, 3, 1), 8);
        Due.due("2 more of weight: close", x.close(0, 3), 14);
    }

    private static void oddsOfEight() {
        EvenStride x = of(5, 10, 20, 30, 40, 50, 60, 70, 80);
        Due.due("11 to the 8th", x.odds(0, 255, -1), 214358881L);
        long sum = 0;
        long close = 0;
        for (int i = 0; i < 8; i++) {
            long rows = x.odds(0, 255, i);
            sum += rows;
            close += Math.abs(8 * rows - 214358881L);
        }
        Due.due("each row has one first", sum, 214358881L);
        Due.due("close(0, 255)", x.close(0, 255), close);
        // the last is first only where all others are below it
        long last = 0;
        for (long luck = 0; luck <= 10; luck++) {
            last += luck * luck * luck * luck * luck * luck * luck;
        }
        Due.due("odds(0, 255, 7)", x.odds(0, 255, 7), last);
        x.set(7, 2, 20);
        Due.due("one far ahead", x.odds(0, 255, 7), 214358881L);
        Due.due("one far ahead: close", x.close(0, 255), 14 * 214358881L);
    }

    private static void oddsRefuse() {
        EvenStride x = of(1, 100, 90, 80, 70);
        int[][] wrong = {
            {-1, 3, 0}, {3, 3, 0}, {0, 0, -1}, {0, 1, 0}, {0, 1, -1}, {0, 16, -1}, {0, 19, 0}, {0, -1, 0},
            {0, Integer.MIN_VALUE, -1}, {0, 3, -2}, {0, 3, 2}, {0, 3, 4}, {0, 3, 8}, {0, 3, 32},
            {0, 3, Integer.MAX_VALUE}, {0, 3, Integer.MIN_VALUE}, {Integer.MAX_VALUE, 3, 0},
        };
        for (int[] one : wrong) {
            String with = "(" + one[0] + ", " + one[1] + ", " + one[2] + ")";
            Due.due("odds" + with, x.odds(one[0], one[1], one[2]), -1);
            Due.due("even" + with, x.even(one[0], one[1], one[2]), EvenStride.BAD);
        }
        int[][] wrongClose = {{-1, 3}, {3, 3}, {0, 0}, {0, 1}, {0, 16}, {0, 19}, {0, -1}, {0, Integer.MIN_VALUE}};
        for (int[] one : wrongClose) {
            Due.due("close(" + one[0] + ", " + one[1] + ")", x.close(one[0], one[1]), -1);
        }
    }

    private static void oddsByAllRows() {
        Random random = new Random(5);
        for (int k = 0; k < 400; k++) {
            int size = 2 + random.nextInt(4);
            int spread = random.nextInt(size > 4 ? 3 : 5);
            EvenStride x = of(spread);
            int[] levels = new int[size];
            for (int i = 0; i < size; i++) {
                int strength = 50 + random.nextInt(8);
                int mark = 50 + random.nextInt(8);
                x.runner(strength);
                x.set(i, 5, mark);
                levels[i] = strength - mark;
            }
            long[] rows = new long[size];
            long all = countRows(levels, spread, rows);
            long close = 0;
            for (int i = 0; i < size; i++) {
                Due.due("odds of " + i, x.odds(1, (1 << size) - 1, i), rows[i]);
                close += Math.abs(size * rows[i] - all);
            }
            Due.due("all rows", x.odds(1, (1 << size) - 1, -1), all);
            Due.due("close", x.close(1, (1 << size) - 1), close);
        }
    }

    /** Goes through every row of lucks; answers how many there are. */
    private static long countRows(int[] levels, int spread, long[] rows) {
        int width = 2 * spread + 1;
        long all = Math.round(Math.pow(width, levels.length));
        for (long row = 0; row < all; row++) {
            long left = row;
            int first = -1;
            int best = 0;
            for (int i = 0; i < levels.length; i++) {
                int shown = levels[i] + (int) (left % width) - spread;
                left /= width;
                if (first < 0 || shown > best) {
                    first = i;
                    best = shown;
                }
            }
            rows[first]++;
        }
        return all;
    }

    private static void evenOfTwo() {
        checkEven(of(1, 70, 70), 3, 0, 0, 6);
        checkEven(of(1, 75, 70), 3, 5, 0, 6);
        checkEven(of(1, 70, 75), 3, 0, 4, 6);
        checkEven(of(1, 70, 90), 3, 0, 19, 6);
        checkEven(of(1, 70, 92), 3, 0, 20, 14);
        checkEven(of(1, 91, 70), 3, 20, 0, 14);
        checkEven(of(1, 70, 125), 3, 0, 0, 18);
        checkEven(of(0, 90, 70), 3, 0, 0, 2);
        EvenStride marks = of(1, 75, 70);
        marks.set(0, 5, 0);
        marks.set(1, 5, 200);
        checkEven(marks, 3, 5, 0, 6);
        EvenStride habits = of(1, 75, 70);
        habits.set(0, 0, 1);
        habits.tune(1, 4);
        checkEven(habits, 3, 1, 0, 6);
        EvenStride far = of(1, 5, 75, 5, 70, 5);
        Due.due("even(0, 10, 1)", far.even(0, 10, 1), 5);
        Due.due("even(0, 10, 3)", far.even(0, 10, 3), 0);
        Due.due("even(0, 10, 0): not of them", far.even(0, 10, 0), EvenStride.BAD);
        far.set(3, 3, 5);
        Due.due("even(1, 10, 1) on a ground", far.even(1, 10, 1), 0);
        Due.due("even(0, 10, 1) on another", far.even(0, 10, 1), 5);
    }

    private static void checkEven(EvenStride x, int set, int first, int second, long close) {
        Due.due("even of the first", x.even(0, set, 0), first);
        Due.due("even of the second", x.even(0, set, 1), second);
        Due.due("close by these", x.even(0, set, -1), close);
    }

    private static void evenRefuses() {
        EvenStride x = of(1, 100, 90, 80, 70);
        Due.due("four: STATE", x.even(0, 15, 0), EvenStride.STATE);
        Due.due("four: STATE", x.even(0, 15, -1), EvenStride.STATE);
        Due.due("four and a wrong ground: BAD", x.even(3, 15, 0), EvenStride.BAD);
        Due.due("four and a wrong runner: BAD", x.even(0, 15, 4), EvenStride.BAD);
        Due.due("three", x.even(0, 14, 3), 0);
        EvenStride eight = of(1, 1, 2, 3, 4, 5, 6, 7, 8);
        Due.due("eight: STATE", eight.even(0, 255, 7), EvenStride.STATE);
        Due.due("the last three of eight", eight.even(0, 224, 5), 0);
    }

    private static void evenByAllWeights() {
        Random random = new Random(17);
        for (int k = 0; k < 24; k++) {
            int size = k % 4 == 0 ? 2 : 3;
            int spread = random.nextInt(4);
            EvenStride x = of(spread);
            int[] bare = new int[size];
            for (int i = 0; i < size; i++) {
                bare[i] = 50 + random.nextInt(k % 3 == 0 ? 40 : 12);
                x.runner(bare[i]);
            }
            long[] due = bestWeights(bare, spread);
            for (int i = 0; i < size; i++) {
                Due.due("even of " + i + " of " + size, x.even(2, (1 << size) - 1, i), due[i]);
            }
            Due.due("even's close", x.even(2, (1 << size) - 1, -1), due[size]);
        }
    }

    /** Counts every row for every row of weights. */
    static long[] bestWeights(int[] bare, int spread) {
        int size = bare.length;
        long[] best = new long[size + 1];
        best[size] = Long.MAX_VALUE;
        int rows = (int) Math.round(Math.pow(21, size));
        for (int row = 0; row < rows; row++) {
            int[] weights = new int[size];
            int left = row;
            int least = 20;
            for (int i = size - 1; i >= 0; i--) {
                weights[i] = left % 21;
                left /= 21;
                least = Math.min(least, weights[i]);
            }
            if (least > 0) {
                continue;
            }
            long close = closeBy(bare, weights, spread);
            if (close < best[size]) {
                best[size] = close;
                for (int i = 0; i < size; i++) {
                    best[i] = weights[i];
                }
            }
        }
        return best;
    }

    private static long closeBy(int[] bare, int[] weights, int spread) {
        int[] levels = new int[bare.length];
        for (int i = 0; i < levels.length; i++) {
            levels[i] = bare[i] - weights[i];
        }
        long[] rows = new long[levels.length];
        long all = countRows(levels, spread, rows);
        long close = 0;
        for (long each : rows) {
            close += Math.abs(levels.length * each - all);
        }
        return close;
    }

    private static void askingChangesNothing() {
        EvenStride x = of(2, 100, 104, 97);
        x.race(0, 7);
        int lot = x.count(3);
        int mark = x.about(1, 1);
        int shown = x.shown(1, 0);
        x.odds(0, 7, 1);
        x.close(1, 7);
        x.even(2, 7, 0);
        x.good(4, 2, 0);
        x.behind(50, 3, 20);
        x.plan(100, 10, 0);
        Due.due("the lot stays", x.count(3), lot);
        Due.due("races stay", x.count(1), 1);
        Due.due("marks stay", x.about(1, 1), mark);
        Due.due("what was shown stays", x.shown(1, 0), shown);
        Due.due("figures stay", x.about(1, 5), 1);
        Due.due("the trace stays", x.trace(), 0);
    }

    private static void good() {
        for (int spread = 0; spread <= 5; spread++) {
            EvenStride x = of(spread);
            int width = 2 * spread + 1;
            for (int n = 1; n <= 6; n++) {
                int[] above = new int[21];
                int all = (int) Math.round(Math.pow(width, n));
                for (int row = 0; row < all; row++) {
                    above[aboveMiddle(row, n, width)]++;
                }
                int due = all;
                for (int d = 0; d <= 20; d++) {
                    Due.due("spread " + spread + ": good(" + n + ", " + d + ", 0)", x.good(n, d, 0), due);
                    Due.due("spread " + spread + ": good(" + n + ", " + d + ", 1)", x.good(n, d, 1), all);
                    due -= above[d];
                }
            }
        }
    }

    private static int aboveMiddle(int row, int n, int width) {
        int[] lucks = new int[n];
        int left = row;
        for (int k = 0; k < n; k++) {
            lucks[k] = left % width;
            left /= width;
        }
        java.util.Arrays.sort(lucks);
        return lucks[n - 1] - lucks[(n - 1) / 2];
    }

    private static void goodRefuses() {
        EvenStride x = of(2);
        int[][] wrong = {
            {0, 0, 0}, {7, 0, 0}, {-1, 0, 0}, {1, -1, 0}, {1, 21, 0}, {1, 0, -1}, {1, 0, 2},
            {Integer.MIN_VALUE, 0, 0}, {Integer.MAX_VALUE, 0, 1}, {1, Integer.MAX_VALUE, 1}, {1, Integer.MIN_VALUE, 1},
        };
        for (int[] one : wrong) {
            Due.due("good(" + one[0] + ", " + one[1] + ", " + one[2] + ")",
                x.good(one[0], one[1], one[2]), EvenStride.BAD);
        }
    }

    private static void behind() {
        EvenStride x = of(5);
        x.tune(2, 50);
        Due.due("behind(50, 2, 0)", x.behind(50, 2, 0), 0);
        Due.due("behind(50, 2, 1)", x.behind(50, 2, 1), 2);
        Due.due("behind(50, 2, 40)", x.behind(50, 2, 40), 2);
        Due.due("behind(50, -9, 1)", x.behind(50, -9, 1), -9);
        Due.due("behind(200, 9, 40)", x.behind(200, 9, 40), 0);
        Due.due("behind(199, 9, 1)", x.behind(199, 9, 1), 1);
        Due.due("behind(0, -9, 3)", x.behind(0, -9, 3), 0);
        Due.due("behind(0, 0, 40)", x.behind(0, 0, 40), 0);
        Due.ruled(x, "move 1/2;");
        Due.due("move 1/2: behind(100, 4, 3)", x.behind(100, 4, 3), 7);
        Due.due("again, with nothing left of the last", x.behind(100, 4, 3), 7);
        Due.ruled(x, "best 2 of 2;");
        // figures 100 104 108: aims 100 102 106; strength 112
        Due.due("best 2 of 2: behind(100, 4, 3)", x.behind(100, 4, 3), 6);
        Due.ruled(x, "cap 1;");
        Due.due("cap 1: behind(0, 9, 40)", x.behind(0, 9, 40), 161);
        Due.ruled(x, "over 2;");
        Due.due("over 2: behind(100, 4, 3)", x.behind(100, 4, 3), 8);
    }

    private static void behindRefuses() {
        EvenStride x = of(2);
        int[][] wrong = {
            {-1, 0, 0}, {201, 0, 0}, {0, -10, 0}, {0, 10, 0}, {0, 0, -1}, {0, 0, 41},
            {Integer.MIN_VALUE, 0, 0}, {0, Integer.MAX_VALUE, 0}, {0, Integer.MIN_VALUE, 0}, {0, 0, Integer.MAX_VALUE},
        };
        for (int[] one : wrong) {
            Due.due("behind(" + one[0] + ", " + one[1] + ", " + one[2] + ")",
                x.behind(one[0], one[1], one[2]), EvenStride.NO);
        }
    }
}
