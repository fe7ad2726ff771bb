/** Promises 12 to 14: race, shown, weight; with them how marks move and runners grow. */
public final class RaceTest {
    public static void main(String[] args) {
        raceRefuses();
        lucks();
        lucksOfEachSpread();
        shownByHabitAndGround();
        firstOfSeveral();
        shown();
        weight();
        bestOfLast();
        sumRoundedDown();
        moveRoundedTowardZero();
        cap();
        over();
        markWithinBounds();
        growsBehindTheRace();
        Due.end("RaceTest");
    }

    private static EvenStride of(int... strengths) {
        EvenStride x = new EvenStride();
        for (int strength : strengths) {
            x.runner(strength);
        }
        return x;
    }

    private static EvenStride luckless(int... strengths) {
        EvenStride x = of(strengths);
        x.tune(0, 0);
        return x;
    }

    private static void raceRefuses() {
        EvenStride x = of(100, 90, 80);
        int[] sets = {0, 1, 2, 4, 8, 9, 15, 16, 256, -1, Integer.MIN_VALUE, Integer.MIN_VALUE + 3, Integer.MAX_VALUE};
        for (int set : sets) {
            Due.due("race(0, " + set + ")", x.race(0, set), EvenStride.BAD);
        }
        int[] grounds = {Integer.MIN_VALUE, -1, 3, Integer.MAX_VALUE};
        for (int ground : grounds) {
            Due.due("race(" + ground + ", 7)", x.race(ground, 7), EvenStride.BAD);
        }
        Due.due("no race was run", x.count(1), 0);
        Due.due("the lot is as it was", x.count(3), 1);
        Due.due("nobody ran", x.about(0, 4), 0);
        Due.due("race(2, 7)", x.race(2, 7) >= 0 ? 1 : 0, 1);
        Due.due("one was run", x.count(1), 1);
        EvenStride none = new EvenStride();
        Due.due("race(0, 3) of none", none.race(0, 3), EvenStride.BAD);
        Due.due("race(0, 0) of none", none.race(0, 0), EvenStride.BAD);
    }

    /** From LOT 1 the bits 16 on are 16838 and 38526: by 5 left over 3 and 1. */
    private static void lucks() {
        EvenStride x = of(100, 104, 97);
        Due.due("race(0, 3)", x.race(0, 3), 0);
        Due.due("shown(0, 2)", x.shown(0, 2), 1);
        Due.due("shown(1, 2)", x.shown(1, 2), -1);
        Due.due("shown(0, 0)", x.shown(0, 0), 101);
        Due.due("shown(1, 0)", x.shown(1, 0), 99);
        Due.due("count(3)", x.count(3), (int) 2524885223L);
    }

    private static void lucksOfEachSpread() {
        for (int spread = 0; spread <= 5; spread++) {
            EvenStride x = of(50, 50, 50, 50);
            x.tune(0, spread);
            int start = -987654321 + 1234567 * spread;
            x.lot(start);
            long lot = start & 0xffffffffL;
            for (int race = 0; race < 20; race++) {
                int set = race % 2 == 0 ? 15 : 10;
                x.race(0, set);
                for (int i = 0; i < 4; i++) {
                    if ((set >> i & 1) == 1) {
                        lot = (lot * 1103515245L + 12345L) % 4294967296L;
                        Due.due("luck of " + i, x.shown(i, 2), lot / 65536 % (2 * spread + 1) - spread);
                    }
                }
                Due.due("lot behind race " + race, x.count(3), (int) lot);
            }
        }
    }

    private static void shownByHabitAndGround() {
        for (int ground = 0; ground < 3; ground++) {
            for (int habit = 0; habit < 3; habit++) {
                EvenStride x = luckless(100, 80);
                x.tune(1, 4);
                x.tune(2, 33);
                x.set(0, 2, 5);
                x.set(0, 3, -6);
                x.set(0, 4, 17);
                x.set(0, 0, habit);
                int turn = new int[] {5, -6, 17}[ground];
                int loss = new int[] {0, 4, 33}[habit];
                x.race(ground, 3);
                Due.due("shown(0, 0)", x.shown(0, 0), 80 + turn - loss);
                Due.due("shown(0, 1)", x.shown(0, 1), 20);
                Due.due("figure(0, 0)", x.figure(0, 0), 100 + turn - loss);
                Due.due("shown(1, 0)", x.shown(1, 0), 80);
                Due.due("figure(1, 0)", x.figure(1, 0), 80);
            }
        }
    }

    private static void firstOfSeveral() {
        Due.due("all alike: the least number", luckless(60, 60, 60).race(0, 7), 0);
        Due.due("all alike of those who run", luckless(60, 60, 60).race(0, 6), 1);
        EvenStride x = luckless(60, 60, 60, 60);
        x.set(2, 2, 1);
        x.set(3, 2, 1);
        Due.due("two alike ahead", x.race(0, 15), 2);
        EvenStride last = luckless(60, 60, 60, 60, 60, 60, 60, 60);
        last.set(7, 4, 1);
        Due.due("the last of eight", last.race(2, 255), 7);
        EvenStride again = luckless(200, 60, 61);
        again.set(0, 5, 0);
        Due.due("0 shows 200", again.race(0, 3), 0);
        again.set(2, 2, 1);
        Due.due("one who is not in it is not first by what it showed before", again.race(0, 6), 2);
        EvenStride below = luckless(0, 0);
        below.set(0, 5, 200);
        below.set(1, 2, -20);
        Due.due("all below 0", below.race(0, 3), 1);
        Due.due("shown(0, 0)", below.shown(0, 0), -200);
        Due.due("shown(1, 0)", below.shown(1, 0), -20);
    }

    private static void shown() {
        EvenStride x = luckless(100, 90, 80);
        Due.due("shown(0, 0) ahead of all", x.shown(0, 0), EvenStride.NO);
        x.race(0, 3);
        Due.due("shown(0, 0)", x.shown(0, 0), 90);
        Due.due("shown(0, 1)", x.shown(0, 1), 10);
        Due.due("shown(0, 2)", x.shown(0, 2), 0);
        Due.due("shown(2, 0): not in it", x.shown(2, 0), EvenStride.NO);
        Due.due("shown(3, 0)", x.shown(3, 0), EvenStride.NO);
        Due.due("shown(-1, 0)", x.shown(-1, 0), EvenStride.NO);
        Due.due("shown(32, 0)", x.shown(32, 0), EvenStride.NO);
        Due.due("shown(least, 0)", x.shown(Integer.MIN_VALUE, 0), EvenStride.NO);
        Due.due("shown(0, 3)", x.shown(0, 3), EvenStride.NO);
        Due.due("shown(0, -1)", x.shown(0, -1), EvenStride.NO);
        x.set(0, 5, 0);
        x.set(0, 2, 9);
        x.race(0, 1);
        Due.due("shown(0, 0) behind a set and a race refused", x.shown(0, 0), 90);
        x.race(0, 6);
        Due.due("shown(0, 0): not in the latest", x.shown(0, 0), EvenStride.NO);
        Due.due("shown(1, 1)", x.shown(1, 1), 10);
        Due.due("shown(2, 1)", x.shown(2, 1), 0);
    }

    private static void weight() {
        EvenStride x = of(100, 90, 80);
        Due.due("weight(0, 7)", x.weight(0, 7), 20);
        Due.due("weight(1, 7)", x.weight(1, 7), 10);
        Due.due("weight(2, 7)", x.weight(2, 7), 0);
        Due.due("weight(0, 3)", x.weight(0, 3), 10);
        Due.due("weight(2, 3): not of them", x.weight(2, 3), EvenStride.BAD);
        Due.due("weight(0, 1): too few", x.weight(0, 1), EvenStride.BAD);
        Due.due("weight(0, 0)", x.weight(0, 0), EvenStride.BAD);
        Due.due("weight(0, 9): one is not there", x.weight(0, 9), EvenStride.BAD);
        Due.due("weight(3, 7)", x.weight(3, 7), EvenStride.BAD);
        Due.due("weight(-1, 7)", x.weight(-1, 7), EvenStride.BAD);
        Due.due("weight(32, 7)", x.weight(32, 7), EvenStride.BAD);
        Due.due("weight(0, -1)", x.weight(0, -1), EvenStride.BAD);
        x.set(2, 5, 200);
        Due.due("weight(2, 7) by its mark", x.weight(2, 7), 110);
        Due.due("weight(1, 6)", x.weight(1, 6), 0);
    }

    /** Runs 0 and 1, with 0 showing a figure of 100 and turn; answers its mark then. */
    private static int markBehind(EvenStride x, int turn) {
        x.set(0, 2, turn);
        x.race(0, 3);
        return x.about(0, 1);
    }

    private static void bestOfLast() {
        EvenStride x = luckless(100, 100);
        Due.ruled(x, "best 2 of 3; move 1/2;");
        Due.due("110: aim 110", markBehind(x, 10), 105);
        Due.due("110 80: aim 95", markBehind(x, -20), 100);
        Due.due("110 80 105: aim 107", markBehind(x, 5), 103);
        Due.due("80 105 100: aim 102", markBehind(x, 0), 103);
        EvenStride all = luckless(100, 100);
        Due.ruled(all, "best 12 of 12;");
        int sum = 0;
        for (int race = 1; race <= 12; race++) {
            sum += 100 + race;
            Due.due("best 12 of 12, race " + race, markBehind(all, race), sum / race);
        }
        EvenStride one = luckless(100, 100);
        Due.ruled(one, "best 1 of 12;");
        markBehind(one, 20);
        for (int race = 1; race <= 11; race++) {
            Due.due("the best of 12 is still kept", markBehind(one, -race), 120);
        }
        Due.due("and then no more", markBehind(one, -12), 99);
    }

    private static void sumRoundedDown() {
        EvenStride x = luckless(0, 0);
        x.tune(2, 50);
        x.set(0, 0, 2);
        Due.ruled(x, "best 2 of 2; move 1/2;");
        x.set(0, 5, 200);
        Due.due("figure -70", markBehind(x, -20), 65);
        x.set(0, 5, 200);
        Due.due("figures -70 -69: aim -70, not -69", markBehind(x, -19), 65);
        Due.due("figure(0, 0)", x.figure(0, 0), -69);
    }

    private static void moveRoundedTowardZero() {
        EvenStride x = luckless(100, 100);
        Due.ruled(x, "move 2/3;");
        Due.due("up 2 * 10 / 3", markBehind(x, 10), 106);
        x.set(0, 5, 100);
        Due.due("down 2 * 10 / 3", markBehind(x, -10), 94);
        x.set(0, 5, 100);
        Due.due("down 2 / 3", markBehind(x, -1), 100);
        Due.ruled(x, "move 20/20;");
        Due.due("all of it", markBehind(x, -20), 80);
    }

    private static void cap() {
        EvenStride x = luckless(100, 100);
        Due.ruled(x, "cap 3;");
        Due.due("up 3 at most", markBehind(x, 10), 103);
        Due.due("up 3, which is told", markBehind(x, 6), 106);
        Due.due("down 3 at most", markBehind(x, -10), 103);
        Due.due("down 2", markBehind(x, 1), 101);
        Due.ruled(x, "cap 0;");
        Due.due("cap 0", markBehind(x, -20), 101);
    }

    private static void over() {
        EvenStride x = luckless(100, 100);
        Due.ruled(x, "over 5;");
        Due.due("10 above is counted as 5", markBehind(x, 10), 105);
        Due.due("figure(0, 0) is as shown", x.figure(0, 0), 110);
        Due.due("5 above is counted as it is", markBehind(x, 10), 110);
        Due.due("below is counted as it is", markBehind(x, -20), 80);
        Due.ruled(x, "over 0; best 2 of 2;");
        x.set(0, 5, 90);
        Due.due("80 and 95 by 90: 170 by 2", markBehind(x, -5), 85);
    }

    private static void markWithinBounds() {
        EvenStride x = luckless(200, 0);
        x.set(0, 2, 20);
        x.set(1, 2, -20);
        x.race(0, 3);
        Due.due("figure(0, 0)", x.figure(0, 0), 220);
        Due.due("mark 200 at most", x.about(0, 1), 200);
        Due.due("figure(1, 0)", x.figure(1, 0), -20);
        Due.due("mark 0 at least", x.about(1, 1), 0);
    }

    private static void growsBehindTheRace() {
        EvenStride x = luckless(190, 5, 100);
        x.set(0, 1, 9);
        x.set(1, 1, -4);
        x.set(2, 1, 9);
        int[] up = {199, 200, 200};
        int[] down = {1, 0, 0};
        for (int race = 0; race < 3; race++) {
            int was = x.about(0, 0);
            x.race(1, 3);
            Due.due("figure by the strength ahead", x.figure(0, 0), was);
            Due.due("mark by the figure", x.about(0, 1), was);
            Due.due("grown", x.about(0, 0), up[race]);
            Due.due("sunk", x.about(1, 0), down[race]);
        }
        Due.due("one that did not run does not grow", x.about(2, 0), 100);
        Due.due("nor does its mark move", x.about(2, 1), 100);
    }
}
