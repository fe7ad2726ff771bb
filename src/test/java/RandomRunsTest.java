import java.util.Random;

/**
 * All promises at once: runs of random calls, ordinary ones and wild ones, each
 * answer held against PlainStride; and after each run all that can be seen. A run
 * has at most the 512 calls that are promised.
 */
public final class RandomRunsTest {
    private static final int PROMISED = 512;
    private static final int DEAREST = 40;
    private static final int[] EDGES = {
        Integer.MIN_VALUE, Integer.MIN_VALUE + 3, -1000001, -1000000, -501, -21, -10, -2, -1, 0, 1, 2, 3, 4, 5, 6, 7, 8,
        9, 10, 11, 12, 13, 20, 21, 31, 32, 40, 41, 50, 51, 200, 201, 255, 256, 500, 501, 1000000, Integer.MAX_VALUE,
    };

    private final Random random;
    private final EvenStride x = new EvenStride();
    private final PlainStride y = new PlainStride();
    private final boolean wild;
    private final int seed;
    private int asked;

    private RandomRunsTest(int seed) {
        this.seed = seed;
        random = new Random(seed);
        wild = seed % 4 == 0;
    }

    public static void main(String[] args) {
        for (int seed = 1; seed <= 2000 && !Due.anyWrong(); seed++) {
            new RandomRunsTest(seed).run(seed % 3 == 0 ? PROMISED : 120);
        }
        Due.end("RandomRunsTest");
    }

    private void run(int calls) {
        while (asked < calls && asked + DEAREST + lookCalls() <= PROMISED) {
            step();
        }
        look();
        Due.holds("seed " + seed + " within the promised calls: " + asked, asked <= PROMISED);
    }

    private int pick(int least, int most) {
        if (random.nextInt(wild ? 4 : 60) == 0) {
            return random.nextInt(3) == 0 ? random.nextInt() : EDGES[random.nextInt(EDGES.length)];
        }
        return least + random.nextInt(most - least + 1);
    }

    private int who() {
        return pick(0, Math.max(0, y.horses.size() - 1));
    }

    private int some() {
        int set = pick(0, (1 << y.horses.size()) - 1);
        return random.nextInt(3) == 0 ? (1 << y.horses.size()) - 1 : set;
    }

    private int few() {
        int set = 0;
        for (int k = 0; k < 3 && !y.horses.isEmpty(); k++) {
            set |= 1 << random.nextInt(y.horses.size());
        }
        return random.nextInt(10) == 0 ? some() : set;
    }

    private void same(String call, long got, long want) {
        asked++;
        Due.due("seed " + seed + ", call " + asked + ": " + call, got, want);
    }

    private void step() {
        int of = random.nextInt(40);
        if (of < 10) {
            changeYard();
        } else if (of < 18) {
            int a = pick(0, 2);
            int b = some();
            same("race(" + a + ", " + b + ")", x.race(a, b), y.race(a, b));
        } else if (of < 21) {
            text();
        } else if (of < 29) {
            askOdds();
        } else if (of < 34) {
            stables();
        } else {
            kinds();
        }
    }

    private void changeYard() {
        int a;
        int b;
        int c;
        switch (random.nextInt(10)) {
            case 0: case 1: case 2:
                a = pick(0, 200);
                same("runner(" + a + ")", x.runner(a), y.runner(a));
                break;
            case 3: case 4:
                a = pick(0, 2);
                b = a == 0 ? pick(0, 5) : pick(0, 50);
                same("tune(" + a + ", " + b + ")", x.tune(a, b), y.tune(a, b));
                break;
            case 5:
                a = random.nextInt();
                same("lot(" + a + ")", x.lot(a), y.lot(a));
                break;
            default:
                a = who();
                b = pick(0, 5);
                c = b == 0 ? pick(0, 2) : b == 1 ? pick(-9, 9) : b == 5 ? pick(0, 200) : pick(-20, 20);
                same("set(" + a + ", " + b + ", " + c + ")", x.set(a, b, c), y.set(a, b, c));
                break;
        }
    }

    private void text() {
        switch (random.nextInt(6)) {
            case 0:
                long v = random.nextLong();
                int n = pick(1, 8);
                same("type(" + v + ", " + n + ")", x.type(v, n), y.type(v, n));
                break;
            case 1:
                same("clear()", x.clear(), y.clear());
                break;
            case 2:
                type(RuleTest.randomText(random));
                break;
            case 3:
                same("rule()", x.rule(), y.rule());
                break;
            default:
                same("clear()", x.clear(), y.clear());
                type(ruleText());
                same("rule()", x.rule(), y.rule());
                break;
        }
    }

    private String ruleText() {
        int[] r = {1 + random.nextInt(12), 0, 1 + random.nextInt(20), 0, random.nextInt(201), random.nextInt(201)};
        r[1] = r[0] + random.nextInt(13 - r[0]);
        r[3] = r[2] + random.nextInt(21 - r[2]);
        if (random.nextBoolean()) {
            r[4] = random.nextInt(10);
            r[5] = random.nextInt(10);
        }
        return "best " + r[0] + " of " + r[1] + ";move " + r[2] + "/" + r[3] + ";cap " + r[4] + ";over " + r[5] + ";";
    }

    private void type(String text) {
        for (int from = 0; from < text.length(); from += 8) {
            int n = Math.min(8, text.length() - from);
            long v = 0;
            for (int k = from; k < from + n; k++) {
                v = v << 8 | text.charAt(k);
            }
            same("type(" + v + ", " + n + ")", x.type(v, n), y.type(v, n));
        }
    }

    private void askOdds() {
        int a = pick(0, 2);
        int b = some();
        int c = random.nextInt(5) == 0 ? -1 : who();
        switch (random.nextInt(9)) {
            case 0: case 1:
                same("weight(" + c + ", " + b + ")", x.weight(c, b), y.weight(c, b));
                break;
            case 2: case 3:
                same("odds(" + a + ", " + b + ", " + c + ")", x.odds(a, b, c), y.odds(a, b, c));
                break;
            case 4:
                same("close(" + a + ", " + b + ")", x.close(a, b), y.close(a, b));
                break;
            case 5:
                b = few();
                same("even(" + a + ", " + b + ", " + c + ")", x.even(a, b, c), y.even(a, b, c));
                break;
            case 6:
                a = y.spread > 2 ? pick(1, 4) : pick(1, 6);
                b = random.nextBoolean() ? pick(0, 5) : pick(0, 20);
                c = pick(0, 1);
                same("good(" + a + ", " + b + ", " + c + ")", x.good(a, b, c), y.good(a, b, c));
                break;
            default:
                a = pick(0, 200);
                b = pick(-9, 9);
                c = pick(0, 40);
                same("behind(" + a + ", " + b + ", " + c + ")", x.behind(a, b, c), y.behind(a, b, c));
                break;
        }
    }

    private void stables() {
        int a;
        int b;
        int c;
        switch (random.nextInt(7)) {
            case 0:
                a = random.nextBoolean() ? pick(90, 120) : pick(0, 200);
                b = random.nextInt(8) == 0 ? pick(1, 10) : pick(1, 6);
                c = pick(0, 2);
                same("plan(" + a + ", " + b + ", " + c + ")", x.plan(a, b, c), y.plan(a, b, c));
                break;
            case 1:
                a = pick(0, 5);
                b = pick(-9, 9);
                same("hull(" + a + ", " + b + ")", x.hull(a, b), y.hull(a, b));
                break;
            case 2:
                a = random.nextBoolean() ? pick(-60, 60) : pick(-500, 500);
                b = pick(0, 3);
                same("beats(" + a + ", " + b + ")", x.beats(a, b), y.beats(a, b));
                break;
            default:
                a = pick(0, 9);
                b = pick(0, 1);
                c = b == 0 ? pick(80, 120) : pick(0, 200);
                same("card(" + a + ", " + b + ", " + c + ")", x.card(a, b, c), y.card(a, b, c));
                break;
        }
    }

    private void kinds() {
        int a = random.nextInt(3) == 0 ? pick(0, 6) : pick(0, 1);
        int i = who();
        switch (random.nextInt(10)) {
            case 0: case 1:
                a = pick(0, 6);
                same("reading(" + a + ", " + i + ")", x.reading(a, i), y.reading(a, i));
                break;
            case 2: case 3:
                same("keep(" + a + ")", x.keep(a), y.keep(a));
                break;
            case 4: case 5:
                same("back(" + a + ")", x.back(a), y.back(a));
                break;
            case 6:
                same("about(" + i + ", " + a + ")", x.about(i, a), y.about(i, a));
                break;
            case 7:
                same("figure(" + i + ", " + a + ")", x.figure(i, a), y.figure(i, a));
                break;
            case 8:
                same("shown(" + i + ", " + a + ")", x.shown(i, a), y.shown(i, a));
                break;
            default:
                same("count(" + a + ")", x.count(a), y.count(a));
                same("told(" + a + ")", x.told(a), y.told(a));
                break;
        }
    }

    /** How many calls a look at all takes now. */
    private int lookCalls() {
        int calls = 11;
        for (PlainStride.Horse horse : y.horses) {
            calls += 10 + horse.figures.size();
        }
        return calls;
    }

    private void look() {
        int due = asked + lookCalls();
        for (int i = 0; i < y.horses.size(); i++) {
            for (int what = 0; what < 6; what++) {
                same("about(" + i + ", " + what + ")", x.about(i, what), y.about(i, what));
            }
            for (int what = 0; what < 3; what++) {
                same("shown(" + i + ", " + what + ")", x.shown(i, what), y.shown(i, what));
            }
            for (int k = 0; k <= y.horses.get(i).figures.size(); k++) {
                same("figure(" + i + ", " + k + ")", x.figure(i, k), y.figure(i, k));
            }
        }
        for (int what = 0; what < 6; what++) {
            same("told(" + what + ")", x.told(what), y.told(what));
        }
        for (int what = 0; what < 4; what++) {
            same("count(" + what + ")", x.count(what), y.count(what));
        }
        same("trace()", x.trace(), y.trace);
        Due.due("calls of a look", asked, due);
    }
}
