/** What the document says of edges in ODDS and in promises 15 to 19, a sentence a method. */
public final class OddsEdgesTest {
    private static final int LEAST = Integer.MIN_VALUE, MOST = Integer.MAX_VALUE;
    private static final int BAD = EvenStride.BAD, STATE = EvenStride.STATE, NO = EvenStride.NO;

    public static void main(String[] args) {
        allRows();
        oddsOfI();
        oddsOfASet();
        oddsJustInReach();
        oddsAsHabitsTell();
        closeOfASet();
        closeLeastAndGreatest();
        evenOfTwoOrThree();
        evenBadAheadOfState();
        evenOfASet();
        evenWeightsTo20OfTheFirst();
        evenWeightsTo20OfTheSecond();
        evenWeightsTo20OfThree();
        evenFirstByNumbers();
        goodNAndD();
        goodAll();
        goodAboveTheLowerMiddle();
        goodOfOne();
        behindArguments();
        behindOfNoRace();
        behindStrengthWithinBounds();
        behindByTheRuleAlone();
        behindByTwelveFigures();
        Due.end("OddsEdgesTest");
    }

    private static EvenStride of(int spread, int... strengths) {
        EvenStride x = Sample.luckless(strengths);
        x.tune(0, spread);
        return x;
    }

    private static void allRows() {
        Due.sentence("of all rows of LUCKS (each as likely) in how many each is FIRST; ALL rows.");
        for (int spread = 0; spread <= 5; spread++) {
            EvenStride x = of(spread, 50, 50, 50, 50, 50, 50, 50, 50);
            long all = 2 * spread + 1;
            for (int size = 2; size <= 8; size++) {
                all *= 2 * spread + 1;
                long sum = 0;
                for (int i = 0; i < size; i++) {
                    sum += x.odds(0, (1 << size) - 1, i);
                }
                Due.due("ALL of " + size + " by " + spread, x.odds(0, (1 << size) - 1, -1), all);
                Due.due("each row has one FIRST", sum, all);
            }
        }
        Due.due("11 to the 8th", of(5, 1, 2, 3, 4, 5, 6, 7, 8).odds(0, 255, -1), 214358881L);
        Due.due("1 to the 8th", of(0, 1, 2, 3, 4, 5, 6, 7, 8).odds(0, 255, -1), 1);
    }

    private static void oddsOfI() {
        Due.sentence("ODDS: in how many rows a RUNNER is FIRST (i = -1: ALL). -1: BAD.");
        Unchanged.byEach("odds(0, 7, #)", Sample::three, (x, v) -> x.odds(0, 7, v), BAD, -2, 3, 7, 8, 32, LEAST, MOST);
        Unchanged.byEach("odds(0, 255, #)", Sample::eight, (x, v) -> x.odds(0, 255, v), BAD, -2, 8, 9, 32);
        Unchanged.by("odds(0, 3, 2): not of them", Sample::three, x -> x.odds(0, 3, 2), BAD);
        Unchanged.by("odds(0, 6, 0): not of them", Sample::three, x -> x.odds(0, 6, 0), BAD);
        Unchanged.by("odds(0, 7, -1) only asks", Sample::three, x -> x.odds(0, 7, -1), 27);
        EvenStride x = of(0, 50, 50, 50, 50, 50, 50, 50, 50);
        x.set(7, 2, 1);
        Due.due("odds of the last of eight", x.odds(0, 255, 7), 1);
        Due.due("odds of the first of eight", x.odds(0, 255, 0), 0);
    }

    private static void oddsOfASet() {
        Due.sentence("BAD: fewer than 2, or one that is not there, too.");
        Unchanged.byEach("odds(0, #, -1)", Sample::three, (x, v) -> x.odds(0, v, -1), BAD,
            0, 1, 2, 4, 8, 9, 11, 15, 256, LEAST, LEAST + 3, MOST, -1);
        Unchanged.byEach("odds(0, #, -1) of eight", Sample::eight, (x, v) -> x.odds(0, v, -1), BAD, 128, 256, 259, 511);
        Unchanged.byEach("odds(#, 7, 0)", Sample::three, (x, v) -> x.odds(v, 7, 0), BAD, -1, 3, LEAST, MOST);
        Unchanged.byEach("odds(#, 7, -1)", Sample::three, (x, v) -> x.odds(v, 7, -1), BAD, -1, 3, LEAST, MOST);
        for (int ground = 0; ground < 3; ground++) {
            EvenStride x = of(0, 50, 50);
            x.set(1, ground + 2, 1);
            for (int on = 0; on < 3; on++) {
                Due.due("odds(" + on + ", 3, 1)", x.odds(on, 3, 1), on == ground ? 1 : 0);
            }
        }
    }

    /** Of two the one behind is FIRST at times up to where its best luck meets the other's worst. */
    private static void oddsJustInReach() {
        Due.sentence("FIRST is the greatest SHOWN, of several the least number.");
        for (int spread = 0; spread <= 5; spread++) {
            int lucks = 2 * spread + 1;
            for (int ahead = 0; ahead <= 12; ahead++) {
                EvenStride x = of(spread, 50, 50);
                x.set(1, 2, ahead);
                int reach = Math.max(0, lucks - ahead);
                Due.due("0 is " + ahead + " behind by " + spread, x.odds(0, 3, 0), reach * (reach + 1) / 2);
                EvenStride y = of(spread, 50, 50);
                y.set(0, 2, ahead);
                int less = Math.max(0, lucks - ahead - 1);
                Due.due("1 is " + ahead + " behind by " + spread, y.odds(0, 3, 1), less * (less + 1) / 2);
                Due.due("the other has the rest", y.odds(0, 3, 0), lucks * lucks - less * (less + 1) / 2);
            }
        }
    }

    private static void oddsAsHabitsTell() {
        Due.sentence("ODDS of a RACE as it would be run now (all as HABITS tell)");
        for (int habit = 0; habit < 3; habit++) {
            EvenStride x = of(0, 50, 50);
            x.set(0, 0, habit);
            Due.due("less by habit " + habit, x.odds(0, 3, 0), habit == 0 ? 1 : 0);
            x.tune(habit == 0 ? 1 : habit, 0);
            Due.due("less by 0", x.odds(0, 3, 0), 1);
        }
        EvenStride x = of(1, 50, 50);
        x.race(0, 3);
        x.set(0, 5, 51);
        x.set(1, 5, 50);
        Due.due("by the marks of now", x.odds(0, 3, 0), 3);
        x.set(0, 5, 52);
        Due.due("by the marks of now", x.odds(0, 3, 0), 1);
        x.set(0, 5, 53);
        Due.due("by the marks of now", x.odds(0, 3, 0), 0);
    }

    private static void closeOfASet() {
        Due.sentence("CLOSE. -1: BAD.");
        Unchanged.byEach("close(0, #)", Sample::three, (x, v) -> x.close(0, v), BAD,
            0, 1, 2, 4, 8, 9, 11, 15, 256, LEAST, LEAST + 3, MOST, -1);
        Unchanged.byEach("close(0, #) of eight", Sample::eight, (x, v) -> x.close(0, v), BAD, 128, 256, 259, 511, -1);
        Unchanged.byEach("close(#, 7)", Sample::three, (x, v) -> x.close(v, 7), BAD, -1, 3, LEAST, MOST);
        EvenStride y = Sample.three();
        for (int ground = 0; ground < 3; ground++) {
            int on = ground;
            Unchanged.by("close(" + on + ", 7) only asks", Sample::three, x -> x.close(on, 7), y.close(on, 7));
        }
    }

    /** Ties are the least number's, and ALL is odd for two, so CLOSE is never 0 for these. */
    private static void closeLeastAndGreatest() {
        Due.sentence("for each of the m RUNNERS what m times its rows and ALL differ, added");
        for (int spread = 0; spread <= 5; spread++) {
            long lucks = 2 * spread + 1;
            Due.due("two alike", of(spread, 50, 50).close(0, 3), 2 * lucks);
            long all = lucks;
            for (int size = 2; size <= 8; size++) {
                all *= lucks;
                EvenStride x = of(spread, 50, 50, 50, 50, 50, 50, 50, 50);
                x.set(1, 3, 20);
                Due.due(size + " with one far ahead", x.close(1, (1 << size) - 1), 2 * (size - 1) * all);
            }
        }
        EvenStride three = of(1, 50, 50, 50);
        int[] rows = {14, 8, 5};
        for (int i = 0; i < 3; i++) {
            Due.due("three alike by 1: rows of " + i + ", 27 in all", three.odds(0, 7, i), rows[i]);
        }
        Due.due("three alike by 1: 15 and 3 and 12", three.close(0, 7), 30);
    }

    private static void evenOfTwoOrThree() {
        Due.sentence("(for RACES of 2 or 3; else STATE)");
        int set = 7;
        for (int size = 4; size <= 8; size++) {
            set = set << 1 | 1;
            Unchanged.byEach("even(0, " + set + ", #)", Sample::eight, evenOf(set), STATE, -1, 0, size - 1);
        }
        Unchanged.byEach("even(0, 240, #)", Sample::eight, evenOf(240), STATE, -1, 4, 7);
        Due.due("of three", of(0, 5, 5, 5, 5).even(0, 14, -1), 4);
        Due.due("of two", of(0, 5, 5, 5, 5).even(0, 12, -1), 2);
        Unchanged.byEach("even(0, #, -1) of fewer", Sample::eight, (x, v) -> x.even(0, v, -1), BAD, 0, 1, 128);
    }

    private static Unchanged.CallOf evenOf(int set) {
        return (x, v) -> x.even(0, set, v);
    }

    private static void evenBadAheadOfState() {
        Due.sentence("Refused, and nothing changes, the first of these: BAD");
        Unchanged.byEach("even(#, 15, 0)", Sample::eight, (x, v) -> x.even(v, 15, 0), BAD, -1, 3);
        Unchanged.byEach("even(0, 15, #)", Sample::eight, evenOf(15), BAD, -2, 4, 7, 8, LEAST, MOST);
        Unchanged.byEach("even(0, #, 0)", Sample::eight, (x, v) -> x.even(0, v, 0), BAD, 256 + 15, 511, -1);
    }

    private static void evenOfASet() {
        Due.sentence("EVEN: WEIGHT of a RUNNER (i = -1: CLOSE by these). BAD; STATE.");
        Unchanged.byEach("even(0, 7, #)", Sample::three, evenOf(7), BAD, -2, 3, 7, 8, 32, LEAST, MOST);
        Unchanged.by("even(0, 3, 2): not of them", Sample::three, x -> x.even(0, 3, 2), BAD);
        Unchanged.by("even(0, 6, 0): not of them", Sample::three, x -> x.even(0, 6, 0), BAD);
        Unchanged.byEach("even(0, #, 0)", Sample::three, (x, v) -> x.even(0, v, 0), BAD,
            0, 1, 2, 8, 9, 11, 15, 256, LEAST, LEAST + 3, MOST, -1);
        Unchanged.byEach("even(#, 7, 0)", Sample::three, (x, v) -> x.even(v, 7, 0), BAD, -1, 3, LEAST, MOST);
        EvenStride y = Sample.three();
        for (int i = -1; i < 3; i++) {
            int who = i;
            Unchanged.by("even(0, 7, " + i + ") only asks", Sample::three, x -> x.even(0, 7, who), y.even(0, 7, i));
        }
        for (int ground = 0; ground < 3; ground++) {
            EvenStride x = of(1, 50, 50);
            x.set(0, ground + 2, 5);
            for (int on = 0; on < 3; on++) {
                Due.due("even(" + on + ", 3, 0)", x.even(on, 3, 0), on == ground ? 5 : 0);
            }
        }
    }

    private static void checkEven(int ahead, EvenStride x, int first, int second, int close) {
        Due.due(ahead + " ahead: even of the first", x.even(0, 3, 0), first);
        Due.due(ahead + " ahead: even of the second", x.even(0, 3, 1), second);
        Due.due(ahead + " ahead: close by these", x.even(0, 3, -1), close);
    }

    private static void evenWeightsTo20OfTheFirst() {
        Due.sentence("EVEN: by WEIGHTS 0 .. 20 for each instead, the least of them 0, with the least CLOSE");
        for (int ahead = 0; ahead <= 25; ahead++) {
            EvenStride x = of(1, 50 + ahead, 50);
            if (ahead <= 20) {
                checkEven(ahead, x, ahead, 0, 6);
            } else {
                // 1 too much leaves the second one row of nine, 2 too much none by any weights
                checkEven(ahead, x, ahead == 21 ? 20 : 0, 0, ahead == 21 ? 14 : 18);
            }
        }
    }

    private static void evenWeightsTo20OfTheSecond() {
        Due.sentence("EVEN: by WEIGHTS 0 .. 20 for each instead, the least of them 0, with the least CLOSE");
        for (int ahead = 1; ahead <= 25; ahead++) {
            EvenStride x = of(1, 50, 50 + ahead);
            if (ahead <= 21) {
                // both 0 and 1 ahead are as close as can be; the lesser weight comes first
                checkEven(ahead, x, 0, ahead - 1, 6);
            } else {
                checkEven(ahead, x, 0, ahead == 22 ? 20 : 0, ahead == 22 ? 14 : 18);
            }
        }
    }

    private static void evenWeightsTo20OfThree() {
        Due.sentence("EVEN: by WEIGHTS 0 .. 20 for each instead, the least of them 0, with the least CLOSE");
        int[][] rows = {
            {70, 50, 50}, {50, 70, 50}, {50, 50, 70}, {71, 50, 50}, {50, 71, 50}, {50, 50, 71}, {72, 50, 50},
            {50, 72, 50}, {50, 50, 72}, {73, 50, 50}, {50, 50, 73}, {70, 70, 50}, {70, 50, 70}, {50, 70, 70},
            {71, 71, 50}, {50, 71, 71}, {70, 60, 50}, {50, 60, 70}, {60, 80, 70}, {50, 50, 50}, {50, 100, 150},
        };
        for (int[] row : rows) {
            EvenStride x = of(1, row);
            long[] due = OddsTest.bestWeights(row, 1);
            int least = MOST;
            for (int i = 0; i < 3; i++) {
                Due.due("even of " + i + " of " + java.util.Arrays.toString(row), x.even(0, 7, i), due[i]);
                least = Math.min(least, (int) x.even(0, 7, i));
            }
            Due.due("close by these of " + java.util.Arrays.toString(row), x.even(0, 7, -1), due[3]);
            Due.due("the least of them", least, 0);
        }
    }

    private static void evenFirstByNumbers() {
        Due.sentence("of several those first by numbers");
        for (int[] row : new int[][] {{50, 50, 50}, {60, 50, 50}, {50, 60, 50}, {50, 50, 60}, {200, 0, 100}}) {
            EvenStride x = of(0, row);
            for (int i = 0; i < 3; i++) {
                Due.due("without luck all weights are as close", x.even(0, 7, i), 0);
            }
            Due.due("close of three without luck", x.even(0, 7, -1), 4);
            Due.due("close of two without luck", x.even(0, 3, -1), 2);
            Due.due("two without luck", x.even(0, 3, 0) + x.even(0, 3, 1), 0);
        }
        EvenStride marks = of(1, 50, 50);
        marks.set(0, 5, 0);
        marks.set(1, 5, 200);
        checkEven(0, marks, 0, 0, 6);
    }

    private static void goodNAndD() {
        Due.sentence("TOO GOOD: of n runs (1 .. 6) of one who tries always alike, by all rows of LUCKS:"
            + " in how many the greatest is d (0 .. 20) or more");
        for (int what = 0; what < 2; what++) {
            int which = what;
            Unchanged.byEach("good(#, 0, " + what + ")", Sample::three, (x, v) -> x.good(v, 0, which), BAD,
                -1, 0, 7, 32, LEAST, MOST);
            Unchanged.byEach("good(3, #, " + what + ")", Sample::three, (x, v) -> x.good(3, v, which), BAD,
                -1, 21, LEAST, MOST);
        }
        Unchanged.byEach("good(3, 0, #)", Sample::three, (x, v) -> x.good(3, 0, v), BAD, -1, 2, LEAST, MOST);
        Unchanged.by("good(1, 0, 0) only asks", Sample::three, x -> x.good(1, 0, 0), 3);
        Unchanged.by("good(6, 20, 0) only asks", Sample::three, x -> x.good(6, 20, 0), 0);
        Unchanged.by("good(6, 20, 1) only asks", Sample::three, x -> x.good(6, 20, 1), 729);
        Due.due("no runner is asked for", new EvenStride().good(1, 20, 1), 5);
    }

    private static void goodAll() {
        Due.sentence("TOO GOOD: rows (what = 0), ALL (1).");
        for (int spread = 0; spread <= 5; spread++) {
            EvenStride x = of(spread);
            int all = 1;
            for (int n = 1; n <= 6; n++) {
                all *= 2 * spread + 1;
                Due.due("ALL of " + n + " by " + spread, x.good(n, 0, 1), all);
                Due.due("ALL whatever d is", x.good(n, 20, 1), all);
                Due.due("0 or more above: all rows", x.good(n, 0, 0), all);
                Due.due("more than any luck", x.good(n, 2 * spread + 1, 0), 0);
                Due.due("20 above", x.good(n, 20, 0), 0);
            }
        }
        Due.due("11 to the 6th", of(5).good(6, 0, 1), 1771561);
    }

    /** By SPREAD 1 the greatest is 2 above the lower middle one: half of them (and one) at -1, one at 1. */
    private static void goodAboveTheLowerMiddle() {
        Due.sentence("or more above the lower middle one; ALL rows.");
        EvenStride x = of(1);
        int[] due = {0, 2, 3, 22, 35, 191};
        for (int n = 1; n <= 6; n++) {
            Due.due("good(" + n + ", 2, 0)", x.good(n, 2, 0), due[n - 1]);
        }
        // two runs: the lower middle one is the lower, so the rows are those that differ by d or more
        EvenStride wide = of(5);
        for (int d = 1; d <= 20; d++) {
            int left = Math.max(0, 11 - d);
            Due.due("good(2, " + d + ", 0)", wide.good(2, d, 0), left * (left + 1));
        }
    }

    private static void goodOfOne() {
        Due.sentence("above the lower middle one");
        for (int spread = 0; spread <= 5; spread++) {
            EvenStride x = of(spread);
            Due.due("of one run the greatest is the middle one", x.good(1, 0, 0), 2 * spread + 1);
            Due.due("and never above it", x.good(1, 1, 0), 0);
        }
    }

    private static void behindArguments() {
        Due.sentence("BEHIND: of a RUNNER of STRENGTH s and GROW g");
        Unchanged.byEach("behind(#, 0, 1)", Sample::three, (x, v) -> x.behind(v, 0, 1), NO, -1, 201, LEAST, MOST);
        Unchanged.byEach("behind(50, #, 1)", Sample::three, (x, v) -> x.behind(50, v, 1), NO, -10, 10, LEAST, MOST);
        Unchanged.byEach("behind(50, 0, #)", Sample::three, (x, v) -> x.behind(50, 0, v), NO, -1, 41, LEAST, MOST);
        for (int strength : new int[] {0, 200}) {
            for (int grow : new int[] {-9, 9}) {
                for (int n : new int[] {0, 1, 40}) {
                    EvenStride y = Sample.three();
                    Due.holds("behind(" + strength + ", " + grow + ", " + n + ")", y.behind(strength, grow, n) != NO);
                    Unchanged.by("behind(" + strength + ", " + grow + ", " + n + ") only asks", Sample::three,
                        x -> x.behind(strength, grow, n), Sample.three().behind(strength, grow, n));
                }
            }
        }
    }

    private static void behindOfNoRace() {
        Due.sentence("running n RACES (0 .. 40) by THE RULE alone: STRENGTH less MARK then.");
        for (int strength : new int[] {0, 1, 100, 199, 200}) {
            for (int grow : new int[] {-9, 0, 9}) {
                Due.due("behind(" + strength + ", " + grow + ", 0)", new EvenStride().behind(strength, grow, 0), 0);
            }
            Due.due("behind(" + strength + ", 0, 40)", new EvenStride().behind(strength, 0, 40), 0);
        }
        Due.due("behind(100, 9, 1)", new EvenStride().behind(100, 9, 1), 9);
        Due.due("behind(100, -9, 1)", new EvenStride().behind(100, -9, 1), -9);
    }

    private static void behindStrengthWithinBounds() {
        Due.sentence("STRENGTH is so much more behind each RACE of its own, 0 .. 200");
        EvenStride x = new EvenStride();
        Due.ruled(x, "cap 0;");
        int[][] rows = {
            {0, 9, 22, 198}, {0, 9, 23, 200}, {0, 9, 40, 200}, {0, 5, 39, 195}, {0, 5, 40, 200}, {0, 4, 40, 160},
            {200, -9, 22, -198}, {200, -9, 23, -200}, {200, -9, 40, -200}, {200, -5, 39, -195}, {200, -5, 40, -200},
            {200, 9, 40, 0}, {0, -9, 40, 0}, {191, 9, 1, 9}, {192, 9, 1, 8}, {9, -9, 1, -9}, {8, -9, 1, -8},
        };
        for (int[] row : rows) {
            Due.due("cap 0: behind(" + row[0] + ", " + row[1] + ", " + row[2] + ")",
                x.behind(row[0], row[1], row[2]), row[3]);
        }
    }

    private static void behindByTheRuleAlone() {
        Due.sentence("its MARK s at first, without LUCK, WEIGHT 0, on GROUND of no TURN");
        EvenStride x = Sample.three();
        x.clear();
        x.rule();
        x.tune(0, 5);
        x.set(0, 5, 200);
        Due.due("behind by the rule at first is one growth", x.behind(100, 4, 20), 4);
        Due.due("and again", x.behind(100, 4, 20), 4);
        Due.ruled(x, "over 3;");
        Due.due("a growth of T is met", x.behind(0, 3, 40), 3);
        Due.due("one more than T is not", x.behind(0, 4, 40), 43);
        Due.ruled(x, "cap 3;");
        Due.due("a growth of C is met", x.behind(0, 3, 40), 3);
        Due.due("one more than C is not", x.behind(0, 4, 40), 43);
        Due.due("nor is one below", x.behind(200, -4, 40), -43);
        Due.ruled(x, "move 1/20;");
        Due.due("less than 20 moves nothing", x.behind(0, 1, 20), 20);
        Due.due("20 moves 1", x.behind(0, 1, 21), 20);
        Due.due("less than 20 down moves nothing", x.behind(200, -1, 20), -20);
        Due.due("20 down moves 1", x.behind(200, -1, 21), -20);
    }

    private static void behindByTwelveFigures() {
        Due.sentence("FIGURES of its last RACES (12 at most are kept, the latest)");
        EvenStride x = new EvenStride();
        Due.ruled(x, "best 12 of 12;");
        // figures 0 .. n - 1, of which the last 12 count; strength n then
        int[] due = {0, 1, 2, 2, 3, 3, 4, 4, 5, 5, 6, 6, 7, 7, 7, 7};
        for (int n = 0; n < due.length; n++) {
            Due.due("best 12 of 12: behind(0, 1, " + n + ")", x.behind(0, 1, n), due[n]);
        }
        Due.due("best 12 of 12: behind(0, 1, 40)", x.behind(0, 1, 40), 7);
        Due.ruled(x, "best 1 of 12;");
        // the best of the last 12 of those that sink by 1 a race
        Due.due("best 1 of 12: behind(100, -1, 12)", x.behind(100, -1, 12), -12);
        Due.due("best 1 of 12: behind(100, -1, 13)", x.behind(100, -1, 13), -12);
        Due.due("best 1 of 12: behind(100, -1, 40)", x.behind(100, -1, 40), -12);
        Due.ruled(x, "best 1 of 11;");
        Due.due("best 1 of 11: behind(100, -1, 40)", x.behind(100, -1, 40), -11);
    }
}
