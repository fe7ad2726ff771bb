/** Promises 24 to 28: reading, keep, back, count, trace. */
public final class KindsTest {
    public static void main(String[] args) {
        readingAndTrace();
        readingRounds();
        readingRefuses();
        keepAndBack();
        backKeepsNothingElse();
        imagesAreApart();
        imagesRefuse();
        count();
        Due.end("KindsTest");
    }

    private static EvenStride one() {
        EvenStride x = new EvenStride();
        x.runner(10);
        x.runner(90);
        x.tune(0, 4);
        x.tune(1, 20);
        x.tune(2, 30);
        x.set(1, 1, -3);
        x.set(1, 2, 7);
        x.set(1, 3, 11);
        x.set(1, 4, 13);
        x.set(1, 5, 100);
        return x;
    }

    private static void readingAndTrace() {
        int[] due = {100, 104, 120, 210, 107, 85, 105};
        long[] adds = {1, 11, 101, 1101, 10001, 100001, 1001101};
        EvenStride all = one();
        long sum = 0;
        for (int kind = 0; kind < 7; kind++) {
            EvenStride x = one();
            Due.due("reading(" + kind + ", 1)", x.reading(kind, 1), due[kind]);
            Due.due("trace() behind kind " + kind, x.trace(), adds[kind]);
            all.reading(kind, 1);
            sum += adds[kind];
            Due.due("trace() behind all up to " + kind, all.trace(), sum);
        }
        Due.due("trace() again", all.trace(), sum);
        Due.due("the habit is not asked", one().set(1, 0, 2), 0);
        EvenStride habit = one();
        habit.set(1, 0, 2);
        Due.due("reading by a kind, not by the habit", habit.reading(1, 1), 104);
    }

    private static void readingRounds() {
        EvenStride x = new EvenStride();
        x.runner(0);
        x.tune(1, 0);
        x.tune(2, 49);
        Due.due("PULLED below 0", x.reading(3, 0), -49);
        Due.due("HIDDEN toward 0 from below", x.reading(6, 0), -24);
        x.set(0, 5, 28);
        Due.due("HIDDEN toward 0 from above: 7 by 2", x.reading(6, 0), 3);
        x.set(0, 1, -9);
        Due.due("YOUNG below 0", x.reading(5, 0), -17);
        x.set(0, 2, -20);
        Due.due("ODD", x.reading(4, 0), 8);
    }

    private static void readingRefuses() {
        EvenStride x = one();
        int[][] wrong = {
            {-1, 0}, {7, 0}, {0, -1}, {0, 2}, {0, 8}, {Integer.MIN_VALUE, 0}, {Integer.MAX_VALUE, 0},
            {0, Integer.MIN_VALUE}, {6, Integer.MAX_VALUE},
        };
        for (int[] pair : wrong) {
            Due.due("reading(" + pair[0] + ", " + pair[1] + ")", x.reading(pair[0], pair[1]), EvenStride.NO);
        }
        Due.due("the trace has none of these", x.trace(), 0);
    }

    private static void keepAndBack() {
        EvenStride x = new EvenStride();
        x.runner(100);
        x.runner(90);
        x.set(0, 0, 1);
        x.set(0, 1, 2);
        x.set(0, 2, 3);
        x.set(0, 3, 4);
        x.set(0, 4, 5);
        x.race(0, 3);
        x.race(1, 3);
        int[] was = new int[6];
        for (int what = 0; what < 6; what++) {
            was[what] = x.about(0, what);
        }
        int[] figures = {x.figure(0, 0), x.figure(0, 1)};
        int lot = x.count(3);
        Due.due("keep(1)", x.keep(1), 2);
        Due.due("shown stays behind keep", x.shown(0, 0) != EvenStride.NO ? 1 : 0, 1);
        x.runner(70);
        for (int what = 0; what < 6; what++) {
            x.set(0, what, what == 0 ? 2 : 9);
        }
        for (int k = 0; k < 14; k++) {
            x.race(2, 7);
        }
        x.lot(12345);
        Due.due("back(1)", x.back(1), 2);
        Due.due("back: runners", x.count(0), 2);
        Due.due("back: races", x.count(1), 2);
        Due.due("back: lot", x.count(3), lot);
        for (int what = 0; what < 6; what++) {
            Due.due("back: about(0, " + what + ")", x.about(0, what), was[what]);
        }
        Due.due("back: figure(0, 0)", x.figure(0, 0), figures[0]);
        Due.due("back: figure(0, 1)", x.figure(0, 1), figures[1]);
        Due.due("back: figure(0, 2)", x.figure(0, 2), EvenStride.NO);
        for (int i = 0; i < 3; i++) {
            Due.due("back: no latest race", x.shown(i, 0), EvenStride.NO);
        }
        Due.due("back: turn of ground 0", x.set(0, 2, 0), 3);
        Due.due("back: turn of ground 1", x.set(0, 3, 0), 4);
        Due.due("back: turn of ground 2", x.set(0, 4, 0), 5);
        Due.due("back again", x.back(1), 2);
        Due.due("back again: turn of ground 0", x.set(0, 2, 0), 3);
    }

    private static void backKeepsNothingElse() {
        EvenStride x = one();
        x.keep(0);
        x.tune(0, 1);
        x.tune(1, 2);
        x.tune(2, 3);
        Due.ruled(x, "cap 9;");
        Due.typed(x, "over");
        x.card(4, 0, 44);
        x.card(4, 1, 55);
        x.hull(2, 6);
        x.reading(0, 0);
        x.keep(1);
        Due.due("back(0)", x.back(0), 0);
        Due.due("spread stays", x.tune(0, 0), 1);
        Due.due("ease stays", x.tune(1, 0), 2);
        Due.due("pull stays", x.tune(2, 0), 3);
        Due.due("the rule stays", x.told(4), 9);
        Due.due("the text stays", x.count(2), 4);
        Due.due("a bar stays", x.card(4, 0, 0), 44);
        Due.due("a prize stays", x.card(4, 1, 0), 55);
        Due.due("hulls stay", x.hull(2, 0), 6);
        Due.due("the trace stays", x.trace(), 1);
        Due.due("the other image stays", x.back(1), 0);
    }

    private static void imagesAreApart() {
        EvenStride x = new EvenStride();
        x.runner(60);
        x.runner(60);
        Due.due("keep(0)", x.keep(0), 0);
        x.race(0, 3);
        Due.due("keep(1)", x.keep(1), 1);
        x.race(0, 3);
        Due.due("back(0)", x.back(0), 0);
        Due.due("back(0): about(0, 4)", x.about(0, 4), 0);
        Due.due("back(1)", x.back(1), 1);
        Due.due("back(1): about(0, 4)", x.about(0, 4), 1);
        x.race(0, 3);
        x.race(0, 3);
        Due.due("keep(0) anew", x.keep(0), 3);
        Due.due("back(1)", x.back(1), 1);
        Due.due("back(0)", x.back(0), 3);
        Due.due("back(0): about(1, 5)", x.about(1, 5), 3);
        EvenStride none = new EvenStride();
        Due.due("keep(0) of none", none.keep(0), 0);
        none.runner(5);
        Due.due("back(0) to none", none.back(0), 0);
        Due.due("none is there", none.count(0), 0);
        Due.due("the lot is 1", none.count(3), 1);
    }

    private static void imagesRefuse() {
        EvenStride x = one();
        int[] wrong = {Integer.MIN_VALUE, -1, 2, 3, Integer.MAX_VALUE};
        for (int image : wrong) {
            Due.due("keep(" + image + ")", x.keep(image), EvenStride.BAD);
            Due.due("back(" + image + ")", x.back(image), EvenStride.BAD);
        }
        x.race(0, 3);
        int shown = x.shown(1, 0);
        Due.due("back(0)", x.back(0), EvenStride.STATE);
        x.keep(0);
        Due.due("back(1)", x.back(1), EvenStride.STATE);
        Due.due("a back refused forgets nothing", x.shown(1, 0), shown);
    }

    private static void count() {
        EvenStride x = one();
        Due.typed(x, "abc");
        x.race(0, 3);
        x.lot(77);
        int[] due = {2, 1, 3, 77};
        for (int what = 0; what < 4; what++) {
            Due.due("count(" + what + ")", x.count(what), due[what]);
        }
        int[] wrong = {Integer.MIN_VALUE, -1, 4, 5, Integer.MAX_VALUE};
        for (int what : wrong) {
            Due.due("count(" + what + ")", x.count(what), EvenStride.NO);
        }
    }
}
