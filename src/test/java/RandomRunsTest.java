import java.util.Random;

/**
 * All promises at once: runs of random calls, ordinary ones and wild ones, each
 * answer held against PlainStride; and after each run all that can be seen.
 */
public final class RandomRunsTest {
    private static final int[] EDGES = {
        Integer.MIN_VALUE, Integer.MIN_VALUE + 3, -1000001, -1000000, -501, -21, -10, -2, -1, 0, 1, 2, 3, 4, 5, 6, 7, 8,
        9, 10, 11, 12, 13, 20, 21, 31, 32, 40, 41, 50, 51, 200, 201, 255, 256, 500, 501, 1000000, Integer.MAX_VALUE,
    };

    private final Random random;
    private final EvenStride x = new EvenStride();
    private final PlainStride y = new PlainStride();
    private final boolean wild;

    private RandomRunsTest(int seed) {
        random = new Random(seed);
        wild = seed % 4 == 0;
    }

    public static void main(String[] args) {
        for (int seed = 1; seed <= 600 && !Due.anyWrong(); seed++) {
            RandomRunsTest run = new RandomRunsTest(seed);
            int calls = seed % 10 == 0 ? 512 : 120;
            for (int k = 0; k < calls; k++) {
                run.call(seed, k);
            }
            run.compareAll(seed);
        }
        Due.end("RandomRunsTest");
    }

    private int pick(int least, int most) {
        if (random.nextInt(wild ? 4 : 60) == 0) {
            return random.nextInt(3) == 0 ? random.nextInt() : EDGES[random.nextInt(EDGES.length)];
        }
        return least + random.nextInt(most - least + 1);
    }

    private int who() {
        return pick(0, Math.max(0, y.horses.size() - 1));
    }

    private int some() {
        int set = pick(0, (1 << y.horses.size()) - 1);
        return random.nextInt(3) == 0 ? (1 << y.horses.size()) - 1 : set;
    }

    private int few() {
        int set = 0;
        for (int k = 0; k < 3 && !y.horses.isEmpty(); k++) {
            set |= 1 << random.nextInt(y.horses.size());
        }
        return random.nextInt(10) == 0 ? some() : set;
    }

    private void same(int seed, int k, String call, long got, long want) {
        Due.due("seed " + seed + ", call " + k + ": " + call, got, want);
    }

    private void call(int seed, int k) {
        int a;
        int b;
        int c;
        switch (random.nextInt(40)) {
            case 0: case 1: case 2:
                a = pick(0, 200);
                same(seed, k, "runner(" + a + ")", x.runner(a), y.runner(a));
                break;
            case 3: case 4: case 5: case 6:
                a = who();
                b = pick(0, 5);
                c = b == 0 ? pick(0, 2) : b == 1 ? pick(-9, 9) : b == 5 ? pick(0, 200) : pick(-20, 20);
                same(seed, k, "set(" + a + ", " + b + ", " + c + ")", x.set(a, b, c), y.set(a, b, c));
                break;
            case 7:
                a = pick(0, 2);
                b = a == 0 ? pick(0, 5) : pick(0, 50);
                same(seed, k, "tune(" + a + ", " + b + ")", x.tune(a, b), y.tune(a, b));
                break;
            case 8:
                a = random.nextInt();
                same(seed, k, "lot(" + a + ")", x.lot(a), y.lot(a));
                break;
            case 9: case 10:
                newRule(seed, k);
                break;
            case 11: case 12: case 13: case 14: case 15: case 16: case 17: case 18:
                a = pick(0, 2);
                b = some();
                same(seed, k, "race(" + a + ", " + b + ")", x.race(a, b), y.race(a, b));
                break;
            default:
                ask(seed, k);
                break;
        }
    }

    private void newRule(int seed, int k) {
        int[] r = {1 + random.nextInt(12), 0, 1 + random.nextInt(20), 0, random.nextInt(201), random.nextInt(201)};
        r[1] = r[0] + random.nextInt(13 - r[0]);
        r[3] = r[2] + random.nextInt(21 - r[2]);
        if (random.nextBoolean()) {
            r[4] = random.nextInt(10);
            r[5] = random.nextInt(10);
        }
        String text = "best " + r[0] + " of " + r[1] + ";move " + r[2] + "/" + r[3] + ";cap " + r[4] + ";over " + r[5] + ";";
        same(seed, k, "rule() of " + text, Due.ruled(x, text), 4);
        y.rule = r;
    }

    private void ask(int seed, int k) {
        int a;
        int b;
        int c;
        switch (random.nextInt(20)) {
            case 0: case 1:
                a = who();
                b = pick(0, 2);
                same(seed, k, "shown(" + a + ", " + b + ")", x.shown(a, b), y.shown(a, b));
                break;
            case 2: case 3:
                a = who();
                b = some();
                same(seed, k, "weight(" + a + ", " + b + ")", x.weight(a, b), y.weight(a, b));
                break;
            case 4: case 5:
                a = pick(0, 2);
                b = some();
                c = random.nextInt(5) == 0 ? -1 : who();
                same(seed, k, "odds(" + a + ", " + b + ", " + c + ")", x.odds(a, b, c), y.odds(a, b, c));
                break;
            case 6:
                a = pick(0, 2);
                b = some();
                same(seed, k, "close(" + a + ", " + b + ")", x.close(a, b), y.close(a, b));
                break;
            case 7:
                a = pick(0, 2);
                b = few();
                c = random.nextInt(5) == 0 ? -1 : who();
                same(seed, k, "even(" + a + ", " + b + ", " + c + ")", x.even(a, b, c), y.even(a, b, c));
                break;
            case 8:
                a = y.spread > 2 ? pick(1, 4) : pick(1, 6);
                b = random.nextBoolean() ? pick(0, 5) : pick(0, 20);
                c = pick(0, 1);
                same(seed, k, "good(" + a + ", " + b + ", " + c + ")", x.good(a, b, c), y.good(a, b, c));
                break;
            case 9: case 10:
                a = pick(0, 200);
                b = pick(-9, 9);
                c = pick(0, 40);
                same(seed, k, "behind(" + a + ", " + b + ", " + c + ")", x.behind(a, b, c), y.behind(a, b, c));
                break;
            default:
                askMore(seed, k);
                break;
        }
    }

    private void askMore(int seed, int k) {
        int a;
        int b;
        int c;
        switch (random.nextInt(12)) {
            case 0: case 1: case 2: case 3:
                a = pick(0, 9);
                b = pick(0, 1);
                c = b == 0 ? pick(80, 120) : pick(0, 200);
                same(seed, k, "card(" + a + ", " + b + ", " + c + ")", x.card(a, b, c), y.card(a, b, c));
                break;
            case 4:
                a = random.nextBoolean() ? pick(90, 120) : pick(0, 200);
                b = random.nextInt(8) == 0 ? pick(1, 10) : pick(1, 6);
                c = pick(0, 2);
                same(seed, k, "plan(" + a + ", " + b + ", " + c + ")", x.plan(a, b, c), y.plan(a, b, c));
                break;
            case 5:
                a = pick(0, 5);
                b = pick(-9, 9);
                same(seed, k, "hull(" + a + ", " + b + ")", x.hull(a, b), y.hull(a, b));
                break;
            case 6:
                a = random.nextBoolean() ? pick(-60, 60) : pick(-500, 500);
                b = pick(0, 3);
                same(seed, k, "beats(" + a + ", " + b + ")", x.beats(a, b), y.beats(a, b));
                break;
            case 7: case 8:
                a = pick(0, 6);
                b = who();
                same(seed, k, "reading(" + a + ", " + b + ")", x.reading(a, b), y.reading(a, b));
                break;
            case 9:
                a = pick(0, 1);
                same(seed, k, "keep(" + a + ")", x.keep(a), y.keep(a));
                break;
            case 10:
                a = pick(0, 1);
                same(seed, k, "back(" + a + ")", x.back(a), y.back(a));
                break;
            default:
                compareAll(seed);
                break;
        }
    }

    private void compareAll(int seed) {
        for (int i = -1; i <= 8; i++) {
            for (int what = -1; what <= 6; what++) {
                same(seed, -1, "about(" + i + ", " + what + ")", x.about(i, what), y.about(i, what));
                same(seed, -1, "shown(" + i + ", " + what + ")", x.shown(i, what), y.shown(i, what));
            }
            for (int k = -1; k <= 12; k++) {
                same(seed, -1, "figure(" + i + ", " + k + ")", x.figure(i, k), y.figure(i, k));
            }
        }
        for (int what = 0; what < 6; what++) {
            same(seed, -1, "told(" + what + ")", x.told(what), y.rule[what]);
        }
        same(seed, -1, "count(0)", x.count(0), y.count(0));
        same(seed, -1, "count(1)", x.count(1), y.count(1));
        same(seed, -1, "count(3)", x.count(3), y.count(3));
        same(seed, -1, "trace()", x.trace(), y.trace);
    }
}
