import java.util.ArrayList;
import java.util.Collections;
import java.util.List;
import java.util.Random;

/** Promises 20 to 23: card, plan, hull, beats. */
public final class StableTest {
    public static void main(String[] args) {
        card();
        planOfTwo();
        planEdges();
        planRefuses();
        planByAllSets();
        hull();
        beats();
        beatsRefuses();
        beatsByAllHulls();
        Due.end("StableTest");
    }

    private static void card() {
        EvenStride x = new EvenStride();
        for (int race = 0; race < 10; race++) {
            for (int what = 0; what < 2; what++) {
                Due.due("card(" + race + ", " + what + ", 200)", x.card(race, what, 200), 0);
                Due.due("card(" + race + ", " + what + ", 201)", x.card(race, what, 201), EvenStride.BAD);
                Due.due("card(" + race + ", " + what + ", -1)", x.card(race, what, -1), EvenStride.BAD);
                Due.due("card(" + race + ", " + what + ", own)", x.card(race, what, 10 * race + what), 200);
            }
        }
        for (int race = 0; race < 10; race++) {
            for (int what = 0; what < 2; what++) {
                Due.due("each by itself", x.card(race, what, 0), 10 * race + what);
            }
        }
        int[][] wrong = {
            {-1, 0, 5}, {10, 0, 5}, {11, 1, 5}, {12, 0, 5}, {0, -1, 5}, {0, 2, 5},
            {Integer.MIN_VALUE, 0, 5}, {Integer.MAX_VALUE, 1, 5}, {0, 0, Integer.MAX_VALUE}, {0, 1, Integer.MIN_VALUE},
        };
        for (int[] one : wrong) {
            Due.due("card(" + one[0] + ", " + one[1] + ", " + one[2] + ")",
                x.card(one[0], one[1], one[2]), EvenStride.BAD);
        }
    }

    private static EvenStride twoRaces(int firstPrize, int secondPrize) {
        EvenStride x = new EvenStride();
        x.tune(0, 1);
        x.card(0, 0, 50);
        x.card(1, 0, 50);
        x.card(0, 1, firstPrize);
        x.card(1, 1, secondPrize);
        return x;
    }

    private static void check(EvenStride x, int strength, int n, int set, int won, int honest) {
        Due.due("plan's set", x.plan(strength, n, 0), set);
        Due.due("plan's win", x.plan(strength, n, 1), won);
        Due.due("honest win", x.plan(strength, n, 2), honest);
    }

    private static void planOfTwo() {
        check(twoRaces(1, 10), 100, 2, 1, 30, 22);
        check(twoRaces(10, 10), 100, 2, 0, 40, 40);
        check(twoRaces(5, 10), 100, 2, 0, 30, 30);
        check(twoRaces(4, 10), 100, 2, 1, 30, 28);
        EvenStride cap = twoRaces(1, 10);
        Due.ruled(cap, "cap 0;");
        check(cap, 100, 2, 0, 22, 22);
        EvenStride noPull = twoRaces(1, 10);
        noPull.tune(2, 0);
        check(noPull, 100, 2, 0, 22, 22);
    }

    private static void planEdges() {
        EvenStride x = new EvenStride();
        check(x, 0, 1, 0, 0, 0);
        check(x, 200, 10, 0, 0, 0);
        x.tune(0, 5);
        for (int race = 0; race < 10; race++) {
            x.card(race, 1, 200);
        }
        // BAR 0: WEIGHT is all of MARK, so a LUCK of 0 or more wins
        check(x, 0, 10, 0, 10 * 200 * 6, 10 * 200 * 6);
        x.card(0, 0, 95);
        Due.due("bar above the mark: weight 0, luck 1 or more", x.plan(94, 1, 2), 200 * 5);
        Due.due("bar at the mark", x.plan(95, 1, 2), 200 * 6);
        Due.due("bar out of reach", x.plan(89, 1, 2), 0);
        Due.due("bar just in reach", x.plan(90, 1, 2), 200);
        // a pull takes the mark from 3 to 0, so the next race is won by each LUCK from -3 on
        check(x, 3, 2, 1, 200 * 9, 200 * 6);
    }

    private static void planRefuses() {
        EvenStride x = new EvenStride();
        int[][] wrong = {
            {-1, 1, 0}, {201, 1, 0}, {100, 0, 0}, {100, 11, 0}, {100, -1, 0}, {100, 1, -1}, {100, 1, 3},
            {Integer.MIN_VALUE, 1, 0}, {100, Integer.MAX_VALUE, 0}, {100, Integer.MIN_VALUE, 0},
        };
        for (int[] one : wrong) {
            Due.due("plan(" + one[0] + ", " + one[1] + ", " + one[2] + ")",
                x.plan(one[0], one[1], one[2]), EvenStride.BAD);
        }
    }

    private static void planByAllSets() {
        Random random = new Random(99);
        for (int k = 0; k < 60; k++) {
            EvenStride x = new EvenStride();
            int spread = random.nextInt(6);
            int pull = random.nextInt(51);
            int[] rule = {1 + random.nextInt(12), 0, 1 + random.nextInt(20), 0, random.nextInt(30), random.nextInt(30)};
            rule[1] = rule[0] + random.nextInt(13 - rule[0]);
            rule[3] = rule[2] + random.nextInt(21 - rule[2]);
            x.tune(0, spread);
            x.tune(2, pull);
            Due.due("rule()", Due.ruled(x, "best " + rule[0] + " of " + rule[1] + ";move " + rule[2] + "/" + rule[3]
                + ";cap " + rule[4] + ";over " + rule[5] + ";"), 4);
            int n = 1 + random.nextInt(10);
            int strength = random.nextInt(201);
            int[][] races = new int[n][2];
            for (int race = 0; race < n; race++) {
                races[race][0] = Math.max(0, Math.min(200, strength - random.nextInt(25)));
                races[race][1] = random.nextInt(201);
                x.card(race, 0, races[race][0]);
                x.card(race, 1, races[race][1]);
            }
            int best = -1;
            int set = 0;
            for (int pulls = 0; pulls < 1 << n; pulls++) {
                int won = wonBy(pulls, strength, spread, pull, rule, races);
                if (won > best) {
                    best = won;
                    set = pulls;
                }
            }
            check(x, strength, n, set, best, wonBy(0, strength, spread, pull, rule, races));
        }
    }

    private static int wonBy(int pulls, int strength, int spread, int pull, int[] rule, int[][] races) {
        List<Integer> figures = new ArrayList<>();
        int mark = strength;
        int won = 0;
        for (int race = 0; race < races.length; race++) {
            boolean tries = (pulls >> race & 1) == 0;
            int weight = Math.max(0, mark - races[race][0]);
            for (int luck = -spread; tries && luck <= spread; luck++) {
                if (strength + luck - weight >= races[race][0]) {
                    won += races[race][1];
                }
            }
            figures.add(0, tries ? strength : strength - pull);
            mark = markBy(figures, mark, rule);
        }
        return won;
    }

    private static int markBy(List<Integer> figures, int mark, int[] rule) {
        List<Integer> last = new ArrayList<>(figures.subList(0, Math.min(rule[1], figures.size())));
        last.sort(Collections.reverseOrder());
        int best = Math.min(rule[0], last.size());
        int sum = 0;
        for (int figure : last.subList(0, best)) {
            sum += figure > mark + rule[5] ? mark + rule[5] : figure;
        }
        int move = rule[2] * (Math.floorDiv(sum, best) - mark) / rule[3];
        move = Math.max(-rule[4], Math.min(rule[4], move));
        return Math.max(0, Math.min(200, mark + move));
    }

    private static void hull() {
        EvenStride x = new EvenStride();
        int[] first = {1, 0, 0, 0, 0, 1};
        for (int k = 0; k < 6; k++) {
            Due.due("hull(" + k + ", 10)", x.hull(k, 10), EvenStride.NO);
            Due.due("hull(" + k + ", -10)", x.hull(k, -10), EvenStride.NO);
            Due.due("hull(" + k + ", 9)", x.hull(k, 9), first[k]);
            Due.due("hull(" + k + ", -9)", x.hull(k, -9), 9);
            Due.due("hull(" + k + ", k)", x.hull(k, k), -9);
        }
        for (int k = 0; k < 6; k++) {
            Due.due("each by itself", x.hull(k, 0), k);
        }
        int[] wrong = {Integer.MIN_VALUE, -1, 6, 7, Integer.MAX_VALUE};
        for (int k : wrong) {
            Due.due("hull(" + k + ", 1)", x.hull(k, 1), EvenStride.NO);
        }
        Due.due("hull(0, most)", x.hull(0, Integer.MAX_VALUE), EvenStride.NO);
    }

    private static void checkBeats(EvenStride x, int limit, int... due) {
        for (int what = 0; what < 4; what++) {
            Due.due("beats(" + limit + ", " + what + ")", x.beats(limit, what), due[what]);
        }
    }

    private static void beats() {
        int no = EvenStride.NO;
        EvenStride x = new EvenStride();
        checkBeats(x, 5, 1, 1, 12, 12);
        checkBeats(x, 1, 1, 1, 12, 12);
        checkBeats(x, 0, no, no, no, no);
        checkBeats(x, 500, 1, 1, 12, 12);
        checkBeats(x, -500, no, no, no, no);
        x.hull(0, -9);
        checkBeats(x, -108, 12, 1, 12, 12);
        checkBeats(x, -109, no, no, no, no);
        x.hull(5, 0);
        checkBeats(x, -100, 12, 1, 1, 0);
        x.hull(3, -9);
        x.hull(4, -9);
        x.hull(5, -9);
        checkBeats(x, 0, 1, 1, 1, -27);
        checkBeats(x, -108, 12, 1, 1, -126);
        x.hull(0, 1);
        x.hull(1, 1);
        x.hull(2, 1);
        x.hull(3, 2);
        x.hull(4, 2);
        x.hull(5, 2);
        checkBeats(x, 20, 1, 7, 12, 40);
        x.hull(4, 3);
        checkBeats(x, 20, 1, 12, 7, 52);
    }

    private static void beatsRefuses() {
        EvenStride x = new EvenStride();
        int[] limits = {Integer.MIN_VALUE, -501, 501, Integer.MAX_VALUE};
        for (int limit : limits) {
            Due.due("beats(" + limit + ", 0)", x.beats(limit, 0), EvenStride.NO);
        }
        int[] whats = {Integer.MIN_VALUE, -1, 4, Integer.MAX_VALUE};
        for (int what : whats) {
            Due.due("beats(5, " + what + ")", x.beats(5, what), EvenStride.NO);
        }
    }

    private static void beatsByAllHulls() {
        Random random = new Random(3);
        for (int k = 0; k < 200; k++) {
            EvenStride x = new EvenStride();
            int[] by = new int[6];
            for (int which = 0; which < 6; which++) {
                by[which] = random.nextInt(19) - 9;
                x.hull(which, by[which]);
            }
            int limit = random.nextInt(k % 2 == 0 ? 1001 : 41) - (k % 2 == 0 ? 500 : 20);
            int[] best = null;
            for (int hull = 0; hull < 1728; hull++) {
                int a = hull / 144 + 1;
                int b = hull / 12 % 12 + 1;
                int c = hull % 12 + 1;
                int speed = by[3] * a + by[4] * b + by[5] * c;
                if (by[0] * a + by[1] * b + by[2] * c <= limit && (best == null || speed > best[3])) {
                    best = new int[] {a, b, c, speed};
                }
            }
            int no = EvenStride.NO;
            checkBeats(x, limit, best == null ? new int[] {no, no, no, no} : best);
        }
    }
}
