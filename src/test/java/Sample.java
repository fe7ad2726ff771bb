/** Objects in which something stands at every place, so that a change of any can be seen. */
final class Sample {
    private Sample() {
    }

    static EvenStride three() {
        return of(3);
    }

    static EvenStride eight() {
        return of(8);
    }

    /** Some runners (2 at least), two images, two races, a rule and another one typed. */
    static EvenStride of(int runners) {
        EvenStride x = new EvenStride();
        x.tune(0, 1);
        x.tune(1, 7);
        x.tune(2, 20);
        for (int i = 0; i < runners; i++) {
            x.runner(100 - 9 * i);
            x.set(i, 0, i % 3);
            x.set(i, 1, i - 4);
            x.set(i, 2, i + 1);
            x.set(i, 3, -2 - i);
            x.set(i, 4, 2 * i + 3);
        }
        Due.ruled(x, "best 2 of 3;move 2/3;cap 30;over 40;");
        x.keep(1);
        x.race(0, (1 << runners) - 1);
        x.keep(0);
        x.race(1, 3);
        x.set(0, 5, 33);
        x.card(0, 0, 50);
        x.card(9, 1, 60);
        x.hull(0, -2);
        x.hull(5, 3);
        x.reading(6, 1);
        x.lot(-77);
        Due.typed(x, "cap 57;over 8;");
        return x;
    }

    /** Runners of these strengths, without luck. */
    static EvenStride luckless(int... strengths) {
        EvenStride x = new EvenStride();
        x.tune(0, 0);
        for (int strength : strengths) {
            x.runner(strength);
        }
        return x;
    }
}
