/** Promises 1 to 7: a new object, runner, set, about, figure, tune, lot. */
public final class RunnersTest {
    private static final int[] WILD = {Integer.MIN_VALUE, -1000000, -1, 8, 33, 1000000, Integer.MAX_VALUE};

    public static void main(String[] args) {
        newObject();
        runner();
        runnerComesClean();
        set();
        setRefuses();
        about();
        figure();
        tune();
        lot();
        Due.end("RunnersTest");
    }

    private static void newObject() {
        EvenStride x = new EvenStride();
        long[] counts = {0, 0, 0, 1};
        for (int what = 0; what < 4; what++) {
            Due.due("new: count(" + what + ")", x.count(what), counts[what]);
        }
        int[] told = {1, 1, 1, 1, 200, 200};
        for (int what = 0; what < 6; what++) {
            Due.due("new: told(" + what + ")", x.told(what), told[what]);
        }
        Due.due("new: trace()", x.trace(), 0);
        Due.due("new: about(0, 0)", x.about(0, 0), EvenStride.NO);
        Due.due("new: shown(0, 0)", x.shown(0, 0), EvenStride.NO);
        Due.due("new: back(0)", x.back(0), EvenStride.STATE);
        Due.due("new: back(1)", x.back(1), EvenStride.STATE);
        Due.due("new: clear()", x.clear(), 0);
    }

    private static void runner() {
        EvenStride x = new EvenStride();
        Due.due("runner(-1)", x.runner(-1), EvenStride.BAD);
        Due.due("runner(201)", x.runner(201), EvenStride.BAD);
        Due.due("runner(least)", x.runner(Integer.MIN_VALUE), EvenStride.BAD);
        int[] strengths = {0, 200, 1, 199, 100, 50, 7, 8};
        for (int i = 0; i < 8; i++) {
            Due.due("count(0) ahead", x.count(0), i);
            Due.due("runner " + i, x.runner(strengths[i]), i);
        }
        Due.due("runner(100) as the ninth", x.runner(100), EvenStride.FULL);
        Due.due("runner(201) as the ninth", x.runner(201), EvenStride.BAD);
        Due.due("count(0)", x.count(0), 8);
        for (int i = 0; i < 8; i++) {
            Due.due("strength " + i, x.about(i, 0), strengths[i]);
            Due.due("mark " + i, x.about(i, 1), strengths[i]);
            for (int what = 2; what <= 5; what++) {
                Due.due("about(" + i + ", " + what + ")", x.about(i, what), 0);
            }
        }
    }

    /** A runner that comes where another was before back() has nothing of it. */
    private static void runnerComesClean() {
        EvenStride x = new EvenStride();
        x.runner(50);
        x.keep(0);
        x.runner(90);
        for (int what = 0; what < 6; what++) {
            x.set(1, what, what == 0 ? 2 : 5);
        }
        x.race(0, 3);
        x.back(0);
        Due.due("back: count(0)", x.count(0), 1);
        Due.due("back: about(1, 0)", x.about(1, 0), EvenStride.NO);
        Due.due("runner(60)", x.runner(60), 1);
        int[] clean = {60, 60, 0, 0, 0, 0};
        for (int what = 0; what < 6; what++) {
            Due.due("clean: about(1, " + what + ")", x.about(1, what), clean[what]);
        }
        Due.due("clean: figure(1, 0)", x.figure(1, 0), EvenStride.NO);
        for (int what = 2; what <= 4; what++) {
            Due.due("clean: turn " + what, x.set(1, what, 0), 0);
        }
    }

    private static void set() {
        EvenStride x = new EvenStride();
        x.runner(70);
        x.runner(80);
        int[] least = {0, -9, -20, -20, -20, 0};
        int[] most = {2, 9, 20, 20, 20, 200};
        for (int what = 0; what < 6; what++) {
            int was = what == 5 ? 80 : 0;
            Due.due("set(1, " + what + ", least)", x.set(1, what, least[what]), was);
            Due.due("set(1, " + what + ", least - 1)", x.set(1, what, least[what] - 1), EvenStride.NO);
            Due.due("set(1, " + what + ", most)", x.set(1, what, most[what]), least[what]);
            Due.due("set(1, " + what + ", most + 1)", x.set(1, what, most[what] + 1), EvenStride.NO);
            Due.due("set(1, " + what + ", 1)", x.set(1, what, 1), most[what]);
            Due.due("set(1, " + what + ", 2)", x.set(1, what, 2), 1);
        }
        Due.due("habit", x.about(1, 2), 2);
        Due.due("grow", x.about(1, 3), 2);
        Due.due("mark", x.about(1, 1), 2);
        Due.due("strength stays", x.about(1, 0), 80);
        int[] other = {70, 70, 0, 0, 0, 0};
        for (int what = 0; what < 6; what++) {
            Due.due("the other: about(0, " + what + ")", x.about(0, what), other[what]);
        }
    }

    private static void setRefuses() {
        EvenStride x = new EvenStride();
        x.runner(70);
        for (int wild : WILD) {
            Due.due("set(" + wild + ", 0, 1)", x.set(wild, 0, 1), EvenStride.NO);
            Due.due("set(0, " + wild + ", 1)", x.set(0, wild, 1), EvenStride.NO);
            Due.due("set(0, 0, " + wild + ")", x.set(0, 0, wild), EvenStride.NO);
        }
        Due.due("set(1, 0, 1)", x.set(1, 0, 1), EvenStride.NO);
        Due.due("set(0, 6, 1)", x.set(0, 6, 1), EvenStride.NO);
        for (int what = 0; what < 6; what++) {
            Due.due("unchanged " + what, x.set(0, what, 0), what == 5 ? 70 : 0);
        }
    }

    private static void about() {
        EvenStride x = new EvenStride();
        x.tune(0, 0);
        x.runner(100);
        x.runner(150);
        x.runner(10);
        x.set(0, 0, 1);
        x.set(0, 1, 4);
        for (int race = 0; race < 13; race++) {
            x.race(0, 3);
        }
        // eased by 3; 12 times grown ahead of the last race, 13 times behind it
        int[] due = {152, 145, 1, 4, 13, 12};
        for (int what = 0; what < 6; what++) {
            Due.due("about(0, " + what + ")", x.about(0, what), due[what]);
        }
        Due.due("about(2, 4): it ran in none", x.about(2, 4), 0);
        Due.due("about(2, 5)", x.about(2, 5), 0);
        for (int wild : WILD) {
            Due.due("about(" + wild + ", 0)", x.about(wild, 0), EvenStride.NO);
            Due.due("about(0, " + wild + ")", x.about(0, wild), EvenStride.NO);
        }
        Due.due("about(3, 0)", x.about(3, 0), EvenStride.NO);
        Due.due("about(0, 6)", x.about(0, 6), EvenStride.NO);
    }

    private static void figure() {
        EvenStride x = new EvenStride();
        x.tune(0, 0);
        x.runner(100);
        x.runner(90);
        Due.due("figure(0, 0) ahead of all", x.figure(0, 0), EvenStride.NO);
        for (int race = 0; race < 15; race++) {
            x.set(0, 3, race - 7);
            x.race(1, 3);
            int kept = Math.min(12, race + 1);
            for (int k = 0; k < kept; k++) {
                Due.due("race " + race + ": figure(0, " + k + ")", x.figure(0, k), 100 + race - k - 7);
                Due.due("race " + race + ": figure(1, " + k + ")", x.figure(1, k), 90);
            }
            Due.due("race " + race + ": figure(0, kept)", x.figure(0, kept), EvenStride.NO);
        }
        for (int wild : WILD) {
            Due.due("figure(" + wild + ", 0)", x.figure(wild, 0), EvenStride.NO);
        }
        Due.due("figure(2, 0)", x.figure(2, 0), EvenStride.NO);
        Due.due("figure(0, -1)", x.figure(0, -1), EvenStride.NO);
        Due.due("figure(0, most)", x.figure(0, Integer.MAX_VALUE), EvenStride.NO);
        Due.due("figure(0, least)", x.figure(0, Integer.MIN_VALUE), EvenStride.NO);
    }

    private static void tune() {
        EvenStride x = new EvenStride();
        int[] first = {2, 3, 10};
        int[] most = {5, 50, 50};
        for (int what = 0; what < 3; what++) {
            Due.due("tune(" + what + ", -1)", x.tune(what, -1), EvenStride.BAD);
            Due.due("tune(" + what + ", most + 1)", x.tune(what, most[what] + 1), EvenStride.BAD);
            Due.due("tune(" + what + ", most)", x.tune(what, most[what]), first[what]);
            Due.due("tune(" + what + ", 0)", x.tune(what, 0), most[what]);
            Due.due("tune(" + what + ", 4)", x.tune(what, 4), 0);
        }
        for (int what = 0; what < 3; what++) {
            Due.due("each by itself: tune(" + what + ", 1)", x.tune(what, 1), 4);
        }
        for (int wild : WILD) {
            Due.due("tune(" + wild + ", 1)", x.tune(wild, 1), EvenStride.BAD);
        }
        Due.due("tune(3, 1)", x.tune(3, 1), EvenStride.BAD);
        Due.due("tune(0, most of all)", x.tune(0, Integer.MAX_VALUE), EvenStride.BAD);
    }

    private static void lot() {
        EvenStride x = new EvenStride();
        Due.due("lot(5)", x.lot(5), 1);
        Due.due("lot(-7)", x.lot(-7), 5);
        Due.due("lot(least)", x.lot(Integer.MIN_VALUE), -7);
        Due.due("lot(most)", x.lot(Integer.MAX_VALUE), Integer.MIN_VALUE);
        Due.due("count(3)", x.count(3), Integer.MAX_VALUE);
    }
}
