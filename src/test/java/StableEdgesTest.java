/** What the document says of edges in A STABLE and HULLS and in promises 20 to 23, a sentence a method. */
public final class StableEdgesTest {
    private static final int LEAST = Integer.MIN_VALUE, MOST = Integer.MAX_VALUE;
    private static final int BAD = EvenStride.BAD, NO = EvenStride.NO;

    public static void main(String[] args) {
        cardRace();
        cardWhat();
        barAndPrize();
        planStrength();
        planN();
        planWhat();
        weightIsZeroAtLeast();
        barOrMore();
        prizeTimesLucks();
        pulledFigure();
        markWithinBounds();
        markMovesByTheRule();
        planIsTheLeastOfSeveral();
        planPullsForMore();
        planBitR();
        planOfTheFirstNRaces();
        honest();
        hullK();
        hullV();
        lengths();
        noMoreThanTheLimit();
        limit();
        beatsWhat();
        greatestSpeed();
        firstByLengths();
        Due.end("StableEdgesTest");
    }

    /** A stable by a SPREAD and a PULL; races come as BAR, PRIZE, BAR, PRIZE .. */
    private static EvenStride stable(int spread, int pull, int... races) {
        EvenStride x = new EvenStride();
        x.tune(0, spread);
        x.tune(2, pull);
        for (int k = 0; k + 1 < races.length; k += 2) {
            x.card(k / 2, 0, races[k]);
            x.card(k / 2, 1, races[k + 1]);
        }
        return x;
    }

    private static void plans(String of, EvenStride x, int strength, int n, int... due) {
        for (int what = 0; what < 3; what++) {
            Due.due(of + ": plan(" + strength + ", " + n + ", " + what + ")", x.plan(strength, n, what), due[what]);
        }
    }

    private static void cardRace() {
        Due.sentence("BAR (what = 0), PRIZE (1) of a STABLE's RACE (0 .. 9) becomes v: what it was. BAD.");
        for (int what = 0; what < 2; what++) {
            int which = what;
            Unchanged.byEach("card(#, " + what + ", 5)", Sample::three, (x, v) -> x.card(v, which, 5), BAD,
                -1, 10, 11, 12, 32, LEAST, MOST);
            EvenStride x = new EvenStride();
            for (int race = 0; race < 10; race++) {
                Due.due("card(" + race + ", " + what + ", own)", x.card(race, what, 100 + race), 0);
            }
            for (int race = 0; race < 10; race++) {
                Due.due("the other of " + race, x.card(race, 1 - what, 7), 0);
                Due.due("its own of " + race, x.card(race, what, 7), 100 + race);
            }
        }
    }

    private static void cardWhat() {
        Due.sentence("BAR (what = 0), PRIZE (1)");
        Unchanged.byEach("card(0, #, 5)", Sample::three, (x, v) -> x.card(0, v, 5), BAD, -1, 2, 32, LEAST, MOST);
    }

    private static void barAndPrize() {
        Due.sentence("told with a BAR and a PRIZE (0 .. 200 each; 12 are kept; 0 at first)");
        for (int race : new int[] {0, 9}) {
            for (int what = 0; what < 2; what++) {
                int which = what;
                Unchanged.byEach("card(" + race + ", " + what + ", #)", Sample::three, (x, v) -> x.card(race, which, v),
                    BAD, -1, 201, LEAST, MOST);
                EvenStride x = new EvenStride();
                int was = 0;
                for (int v : new int[] {200, 0, 199, 1}) {
                    Due.due("card(" + race + ", " + what + ", " + v + ")", x.card(race, what, v), was);
                    was = v;
                }
            }
        }
    }

    private static void planStrength() {
        Due.sentence("A STABLE has one RUNNER of STRENGTH s");
        for (int what = 0; what < 3; what++) {
            int which = what;
            Unchanged.byEach("plan(#, 1, " + what + ")", Sample::three, (x, v) -> x.plan(v, 1, which), BAD,
                -1, 201, LEAST, MOST);
        }
        EvenStride x = stable(0, 10, 0, 3);
        plans("of 0", x, 0, 1, 0, 3, 3);
        EvenStride y = stable(0, 10, 200, 3);
        plans("of 200", y, 200, 1, 0, 3, 3);
        plans("of 199", y, 199, 1, 0, 0, 0);
    }

    private static void planN() {
        Due.sentence("and n RACES (1 .. 10)");
        Unchanged.byEach("plan(100, #, 0)", Sample::three, (x, v) -> x.plan(100, v, 0), BAD,
            -1, 0, 11, 12, 32, LEAST, MOST);
        EvenStride x = stable(0, 10);
        for (int race = 0; race < 10; race++) {
            x.card(race, 0, 50);
            x.card(race, 1, 1);
        }
        for (int n = 1; n <= 10; n++) {
            plans("of " + n, x, 50, n, 0, n, n);
        }
    }

    private static void planWhat() {
        Due.sentence("BEST PLAN: the set (what = 0), what it wins (1); HONEST (2). BAD.");
        Unchanged.byEach("plan(100, 3, #)", Sample::three, (x, v) -> x.plan(100, 3, v), BAD, -1, 3, 32, LEAST, MOST);
        EvenStride y = Sample.three();
        for (int what = 0; what < 3; what++) {
            int which = what;
            Unchanged.by("plan(100, 10, " + what + ") only asks", Sample::three, x -> x.plan(100, 10, which),
                y.plan(100, 10, what));
        }
    }

    /** By SPREAD 2 as often as LUCK is at least what is lacking; a BAR above the MARK gives nothing. */
    private static void weightIsZeroAtLeast() {
        Due.sentence("WEIGHT is its MARK less BAR, 0 at least.");
        int[] bars = {0, 50, 98, 99, 100, 101, 102, 103, 200};
        int[] often = {3, 3, 3, 3, 3, 2, 1, 0, 0};
        for (int k = 0; k < bars.length; k++) {
            Due.due("BAR " + bars[k], stable(2, 10, bars[k], 1).plan(100, 1, 2), often[k]);
            Due.due("BAR " + bars[k] + " by 200", stable(2, 10, bars[k], 200).plan(100, 1, 2), 200 * often[k]);
        }
    }

    /** Pulled by so much the MARK is so much less than 100, and the next race is so much easier. */
    private static void barOrMore() {
        Due.sentence("it wins PRIZE times as often as s and LUCK less WEIGHT is BAR or more");
        int[] pulls = {0, 1, 2, 3, 50};
        int[] often = {3, 4, 5, 5, 5};
        for (int k = 0; k < pulls.length; k++) {
            EvenStride x = stable(2, pulls[k], 90, 0, 90, 1);
            plans("PULL " + pulls[k], x, 100, 2, pulls[k] == 0 ? 0 : 1, often[k], 3);
        }
    }

    private static void prizeTimesLucks() {
        Due.sentence("(over all 2 SPREAD and 1 LUCKS)");
        for (int spread = 0; spread <= 5; spread++) {
            EvenStride x = stable(spread, 50, 40, 0, 40, 200);
            plans("SPREAD " + spread, x, 100, 2, spread == 0 ? 0 : 1, 200 * (2 * spread + 1), 200 * (spread + 1));
            EvenStride out = stable(spread, 50, 100 + spread, 200);
            Due.due("only the best LUCK", out.plan(100, 1, 2), 200);
            Due.due("not even that", out.plan(99, 1, 2), 0);
        }
        EvenStride most = stable(5, 50);
        for (int race = 0; race < 10; race++) {
            most.card(race, 1, 200);
        }
        plans("the most of all", most, 0, 10, 0, 12000, 12000);
    }

    private static void pulledFigure() {
        Due.sentence("Its FIGURE is s (pulled: s less PULL; without LUCK)");
        // the mean of -5 and 3 is -1, so the MARK stays at 0 behind a race that it tried
        EvenStride below = stable(5, 8, 0, 0, 0, 0, 0, 200);
        Due.ruled(below, "best 2 of 2;");
        plans("a figure below 0", below, 3, 3, 1, 1800, 1200);
        // the mean of 60 and 51 is 55 and gives each LUCK; that of 60 and 52 is 56 and lacks 1
        for (int pull : new int[] {8, 9}) {
            EvenStride x = stable(5, pull, 30, 0, 30, 0, 30, 1);
            Due.ruled(x, "best 2 of 2;");
            plans("PULL " + pull, x, 60, 3, pull == 8 ? 3 : 1, 11, 6);
        }
    }

    private static void markWithinBounds() {
        Due.sentence("a MARK (0 .. 200; its STRENGTH as it comes)");
        // from 0 the MARK can't sink, so a pull gains nothing
        plans("of 0", stable(2, 50, 0, 1, 0, 1), 0, 2, 0, 6, 6);
        // from 1 it sinks to 0 and no more: LUCKS of -1 and more win
        plans("of 1", stable(2, 50, 0, 0, 0, 1), 1, 2, 1, 4, 3);
        plans("of 2", stable(2, 50, 0, 0, 0, 1), 2, 2, 1, 5, 3);
        plans("of 200", stable(2, 1, 0, 0, 0, 1), 200, 2, 1, 4, 3);
    }

    private static void markMovesByTheRule() {
        Due.sentence("its MARK moves by THE RULE.");
        int[] often = {3, 3, 4, 5};
        for (int cap = 0; cap <= 2; cap++) {
            EvenStride x = stable(2, 50, 50, 0, 50, 1);
            Due.ruled(x, "cap " + cap + ";");
            plans("cap " + cap, x, 100, 2, cap == 0 ? 0 : 1, often[cap + 1], 3);
        }
        // a PULL of 19 moves nothing by 1 / 20, one of 20 moves 1
        for (int pull : new int[] {19, 20}) {
            EvenStride x = stable(2, pull, 50, 0, 50, 1);
            Due.ruled(x, "move 1/20;");
            plans("PULL " + pull, x, 100, 2, pull == 20 ? 1 : 0, pull == 20 ? 4 : 3, 3);
        }
        // the best of two is the one it tried, unless it pulled both
        EvenStride best = stable(2, 50, 50, 0, 50, 0, 50, 1);
        Due.ruled(best, "best 1 of 2;");
        plans("best 1 of 2", best, 100, 3, 3, 5, 3);
        // behind one race there is one figure only, whatever K and N are
        for (String rule : new String[] {"best 1 of 2;", "best 2 of 2;", "best 1 of 12;", "best 12 of 12;"}) {
            EvenStride x = stable(2, 50, 50, 0, 50, 1);
            Due.ruled(x, rule);
            plans(rule, x, 100, 2, 1, 5, 3);
        }
    }

    private static void planIsTheLeastOfSeveral() {
        Due.sentence("of several the least.");
        plans("nothing to win", stable(2, 10), 100, 10, 0, 0, 0);
        plans("no PULL", stable(2, 0, 50, 1, 50, 1), 100, 2, 0, 6, 6);
        // a MARK that never comes up again: a pull in race 0, in race 1 or in both is the same
        EvenStride x = stable(2, 10, 50, 0, 50, 0, 50, 1);
        Due.ruled(x, "over 0;");
        plans("1, 2 and 3 win as much", x, 100, 3, 1, 5, 3);
        EvenStride y = stable(2, 10, 50, 1, 50, 0, 50, 1);
        Due.ruled(y, "over 0;");
        plans("3 are lost in race 0", y, 100, 3, 2, 8, 6);
        // 2 won more in race 1 are lost in race 0
        plans("0 and 1 win as much", stable(2, 10, 50, 2, 50, 3), 100, 2, 0, 15, 15);
    }

    private static void planPullsForMore() {
        Due.sentence("by which it wins most together");
        // in race 0 it wins 3 PRIZES, in race 1 it wins 2 PRIZES more by a pull
        plans("as much", stable(2, 10, 50, 20, 50, 30), 100, 2, 0, 150, 150);
        plans("less", stable(2, 10, 50, 20, 50, 29), 100, 2, 0, 147, 147);
        plans("more", stable(2, 10, 50, 20, 50, 31), 100, 2, 1, 155, 153);
    }

    private static void planBitR() {
        Due.sentence("the set of RACES in which it pulls (bit r: RACE r)");
        for (int race = 1; race < 10; race++) {
            EvenStride x = stable(2, 10);
            for (int k = 0; k < 10; k++) {
                x.card(k, 0, 50);
            }
            x.card(race, 1, 200);
            plans("all of the PRIZE in race " + race, x, 100, 10, 1 << race - 1, 1000, 600);
        }
        EvenStride all = stable(2, 10);
        for (int k = 0; k < 10; k++) {
            all.card(k, 0, 50);
            all.card(k, 1, k % 2 == 0 ? 0 : 200);
        }
        plans("each second one", all, 100, 10, 341, 5000, 3000);
    }

    private static void planOfTheFirstNRaces() {
        Due.sentence("and n RACES (1 .. 10), told with a BAR and a PRIZE");
        EvenStride x = stable(2, 10);
        for (int k = 0; k < 10; k++) {
            x.card(k, 0, 50);
        }
        x.card(9, 1, 200);
        plans("without the tenth", x, 100, 9, 0, 0, 0);
        plans("with the tenth", x, 100, 10, 256, 1000, 600);
    }

    private static void honest() {
        Due.sentence("HONEST: what it wins, if it always tries.");
        EvenStride x = stable(2, 10, 50, 1, 50, 10, 50, 100, 50, 200);
        Due.due("of one", x.plan(100, 1, 2), 3);
        Due.due("of two", x.plan(100, 2, 2), 33);
        Due.due("of three", x.plan(100, 3, 2), 333);
        Due.due("of four", x.plan(100, 4, 2), 933);
        Due.due("with a race that is not told", x.plan(100, 5, 2), 933);
    }

    private static void hullK() {
        Due.sentence("Of HULLS number k (0 .. 2: MEASURE's, 3 .. 5: SPEED's) becomes v");
        Unchanged.byEach("hull(#, 1)", Sample::three, (x, v) -> x.hull(v, 1), NO, -1, 6, 32, LEAST, MOST);
        EvenStride x = new EvenStride();
        int[] first = {1, 0, 0, 0, 0, 1};
        for (int k = 0; k < 6; k++) {
            Due.due("hull(" + k + ", own)", x.hull(k, k - 9), first[k]);
        }
        for (int k = 0; k < 6; k++) {
            Due.due("each by itself", x.hull(k, 0), k - 9);
        }
    }

    private static void hullV() {
        Due.sentence("becomes v (-9 .. 9; 1, 0, 0, 0, 0, 1 at first): what it was. NO: BAD.");
        int[] first = {1, 0, 0, 0, 0, 1};
        for (int k = 0; k < 6; k++) {
            int which = k;
            Unchanged.byEach("hull(" + k + ", #)", Sample::three, (x, v) -> x.hull(which, v), NO, -10, 10, LEAST, MOST);
            EvenStride x = new EvenStride();
            int was = first[k];
            for (int v : new int[] {-9, 9, -8, 8}) {
                Due.due("hull(" + k + ", " + v + ")", x.hull(k, v), was);
                was = v;
            }
        }
    }

    /** HULLS by MEASURE's three numbers and SPEED's three. */
    private static EvenStride hulls(int... numbers) {
        EvenStride x = new EvenStride();
        for (int k = 0; k < 6; k++) {
            x.hull(k, numbers[k]);
        }
        return x;
    }

    private static void beats(EvenStride x, int limit, int... due) {
        for (int what = 0; what < 4; what++) {
            Due.due("beats(" + limit + ", " + what + ")", x.beats(limit, what), due[what]);
        }
    }

    private static void none(EvenStride x, int limit) {
        beats(x, limit, NO, NO, NO, NO);
    }

    private static void lengths() {
        Due.sentence("HULLS have lengths a, b, c (1 .. 12 each)");
        for (int k = 0; k < 3; k++) {
            int[] longest = {1, 1, 1, 0};
            int[] shortest = {1, 1, 1, 0};
            int[] numbers = new int[6];
            numbers[3 + k] = 1;
            longest[k] = 12;
            longest[3] = 12;
            beats(hulls(numbers), 0, longest);
            numbers[3 + k] = -1;
            shortest[3] = -1;
            beats(hulls(numbers), 0, shortest);
        }
        beats(hulls(0, 0, 0, 9, 9, 9), 0, 12, 12, 12, 324);
        beats(hulls(0, 0, 0, -9, -9, -9), 0, 1, 1, 1, -27);
        beats(hulls(0, 0, 0, -9, 9, -9), 0, 1, 12, 1, 90);
    }

    private static void noMoreThanTheLimit() {
        Due.sentence("of all with MEASURE no more than a limit");
        none(hulls(9, 9, 9, 0, 0, 0), 26);
        beats(hulls(9, 9, 9, 0, 0, 0), 27, 1, 1, 1, 0);
        beats(hulls(9, 9, 9, 1, 1, 1), 35, 1, 1, 1, 3);
        beats(hulls(9, 9, 9, 1, 1, 1), 36, 1, 1, 2, 4);
        beats(hulls(9, 9, 9, 1, 1, 1), 323, 11, 12, 12, 35);
        beats(hulls(9, 9, 9, 1, 1, 1), 324, 12, 12, 12, 36);
        none(hulls(-9, -9, -9, 1, 1, 1), -325);
        beats(hulls(-9, -9, -9, 0, 0, 0), -324, 12, 12, 12, 0);
        beats(hulls(-9, -9, -9, 0, 0, 0), -315, 11, 12, 12, 0);
        beats(hulls(0, 0, 0, 0, 0, 0), 0, 1, 1, 1, 0);
        none(hulls(0, 0, 0, 0, 0, 0), -1);
        none(new EvenStride(), 0);
        beats(new EvenStride(), 1, 1, 1, 12, 12);
    }

    private static void limit() {
        Due.sentence("BEATS by a limit (-500 .. 500): a, b, c (what = 0, 1, 2), SPEED (3). NO: NONE, or BAD.");
        for (int what = 0; what < 4; what++) {
            int which = what;
            Unchanged.byEach("beats(#, " + what + ")", Sample::three, (x, v) -> x.beats(v, which), NO,
                -501, 501, LEAST, MOST);
            Unchanged.by("beats(-500, " + what + "): NONE", Sample::three, x -> x.beats(-500, which), NO);
        }
        beats(hulls(9, 9, 9, 1, 1, 1), 499, 12, 12, 12, 36);
        beats(hulls(9, 9, 9, 1, 1, 1), 500, 12, 12, 12, 36);
        none(hulls(-9, -9, -9, 1, 1, 1), -499);
        none(hulls(-9, -9, -9, 1, 1, 1), -500);
    }

    private static void beatsWhat() {
        Due.sentence("a, b, c (what = 0, 1, 2), SPEED (3)");
        Unchanged.byEach("beats(5, #)", Sample::three, (x, v) -> x.beats(5, v), NO, -1, 4, 32, LEAST, MOST);
        EvenStride y = Sample.three();
        for (int what = 0; what < 4; what++) {
            int which = what;
            Unchanged.by("beats(5, " + what + ") only asks", Sample::three, x -> x.beats(5, which), y.beats(5, what));
        }
        beats(hulls(1, 2, 3, 1, 2, 3), 20, 1, 2, 5, 20);
    }

    private static void greatestSpeed() {
        Due.sentence("that with the greatest SPEED");
        beats(hulls(1, 1, 1, 1, 1, 2), 20, 1, 7, 12, 32);
        beats(hulls(1, 1, 1, 2, 1, 1), 20, 12, 1, 7, 32);
        beats(hulls(1, 1, 1, -1, -1, -2), 20, 1, 1, 1, -4);
        beats(hulls(-1, 0, 0, -1, -1, -1), -5, 5, 1, 1, -7);
    }

    private static void firstByLengths() {
        Due.sentence("of several the first by a, b, c; NONE.");
        beats(hulls(1, 1, 1, 1, 1, 1), 3, 1, 1, 1, 3);
        beats(hulls(1, 1, 1, 1, 1, 1), 4, 1, 1, 2, 4);
        beats(hulls(1, 1, 1, 1, 1, 1), 14, 1, 1, 12, 14);
        beats(hulls(1, 1, 1, 1, 1, 1), 15, 1, 2, 12, 15);
        beats(hulls(1, 1, 1, 1, 1, 1), 25, 1, 12, 12, 25);
        beats(hulls(1, 1, 1, 1, 1, 1), 26, 2, 12, 12, 26);
        beats(hulls(0, 0, -1, 0, 0, 0), -12, 1, 1, 12, 0);
        beats(hulls(0, -1, 0, 0, 0, 0), -12, 1, 12, 1, 0);
        none(hulls(1, 1, 1, 1, 1, 1), 2);
    }
}
