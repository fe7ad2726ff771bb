/** What the document says of edges in RUNNERS and in promises 1 to 7, a sentence a method. */
public final class RunnersEdgesTest {
    private static final int LEAST = Integer.MIN_VALUE, MOST = Integer.MAX_VALUE;
    private static final int BAD = EvenStride.BAD, FULL = EvenStride.FULL, NO = EvenStride.NO;

    public static void main(String[] args) {
        newObject();
        newObjectRefuses();
        eightAtMost();
        badGoesAheadOfFull();
        strength();
        turn();
        turnIsOfItsGround();
        grow();
        growsWithinBounds();
        growsBehindItsOwnRaces();
        habit();
        habitTakesEaseOrPull();
        mark();
        twelveFigures();
        spreadEasePull();
        setOfWhat();
        aboutWhat();
        figureK();
        tuneWhat();
        lot();
        Due.end("RunnersEdgesTest");
    }

    private static void newObject() {
        Due.sentence("No RUNNERS; the LOT is 1.");
        EvenStride x = new EvenStride();
        Due.due("count(0)", x.count(0), 0);
        Due.due("count(1)", x.count(1), 0);
        Due.due("count(2)", x.count(2), 0);
        Due.due("count(3)", x.count(3), 1);
        Due.due("lot(1)", x.lot(1), 1);
        Due.due("trace()", x.trace(), 0);
        Due.due("runner(50) is the first", x.runner(50), 0);
    }

    private static void newObjectRefuses() {
        Due.sentence("No RUNNERS");
        Unchanged.by("set(0, 0, 1)", EvenStride::new, x -> x.set(0, 0, 1), NO);
        Unchanged.by("about(0, 0)", EvenStride::new, x -> x.about(0, 0), NO);
        Unchanged.by("figure(0, 0)", EvenStride::new, x -> x.figure(0, 0), NO);
        Unchanged.by("shown(0, 0)", EvenStride::new, x -> x.shown(0, 0), NO);
        Unchanged.by("reading(0, 0)", EvenStride::new, x -> x.reading(0, 0), NO);
        Unchanged.byEach("weight(0, #)", EvenStride::new, (x, v) -> x.weight(0, v), BAD, 0, 1, 3, 255, -1);
        Unchanged.byEach("race(0, #)", EvenStride::new, (x, v) -> x.race(0, v), BAD, 0, 1, 3, 255, -1);
        Unchanged.byEach("odds(0, #, -1)", EvenStride::new, (x, v) -> x.odds(0, v, -1), BAD, 0, 1, 3, 255, -1);
        Unchanged.byEach("close(0, #)", EvenStride::new, (x, v) -> x.close(0, v), BAD, 0, 1, 3, 255, -1);
        Unchanged.byEach("even(0, #, -1)", EvenStride::new, (x, v) -> x.even(0, v, -1), BAD, 0, 1, 3, 255, -1);
    }

    private static void eightAtMost() {
        Due.sentence("7 (as they come; 8 at most)");
        EvenStride x = new EvenStride();
        for (int i = 0; i < 8; i++) {
            Due.due("runner as number " + i, x.runner(20 * i), i);
            Due.due("count(0)", x.count(0), i + 1);
        }
        for (int i = 0; i < 8; i++) {
            Due.due("each stands where it came: about(" + i + ", 0)", x.about(i, 0), 20 * i);
        }
        Due.due("the eighth, behind seven", Sample.of(7).runner(100), 7);
        Unchanged.byEach("runner(#) as the ninth", Sample::eight, (y, v) -> y.runner(v), FULL, 0, 100, 200);
    }

    private static void badGoesAheadOfFull() {
        Due.sentence("Refused, and nothing changes, the first of these: BAD");
        Unchanged.byEach("runner(#) as the ninth", Sample::eight, (x, v) -> x.runner(v), BAD, -1, 201, LEAST, MOST);
    }

    private static void strength() {
        Due.sentence("have STRENGTH 0 .. 200");
        Unchanged.byEach("runner(#)", Sample::three, (x, v) -> x.runner(v), BAD, -1, 201, LEAST, MOST);
        Unchanged.byEach("runner(#) as the first", EvenStride::new, (x, v) -> x.runner(v), BAD, -1, 201, LEAST, MOST);
        for (int v : new int[] {0, 1, 199, 200}) {
            EvenStride x = Sample.three();
            Due.due("runner(" + v + ")", x.runner(v), 3);
            Due.due("its strength", x.about(3, 0), v);
        }
    }

    private static void turn() {
        Due.sentence("TURN for GROUNDS 0, 1, 2 (-20 .. 20 each, 0 at first)");
        for (int ground = 0; ground < 3; ground++) {
            int what = ground + 2;
            String call = "set(1, " + what + ", #)";
            Unchanged.byEach(call, Sample::three, (x, v) -> x.set(1, what, v), NO, -21, 21, LEAST, MOST);
            EvenStride x = Sample.luckless(100, 100);
            Due.due("set to -20, 0 at first", x.set(1, what, -20), 0);
            Due.due("set to 20", x.set(1, what, 20), -20);
            Due.due("set to -19", x.set(1, what, -19), 20);
            Due.due("set to 19", x.set(1, what, 19), -19);
            for (int other = 2; other < 5; other++) {
                Due.due("turn " + other + " of the same", x.set(1, other, 0), other == what ? 19 : 0);
                Due.due("turn " + other + " of another", x.set(0, other, 0), 0);
            }
        }
    }

    private static void turnIsOfItsGround() {
        Due.sentence("STRENGTH and TURN of the GROUND");
        for (int ground = 0; ground < 3; ground++) {
            for (int turn : new int[] {-20, 20}) {
                EvenStride x = Sample.luckless(100, 100);
                Due.ruled(x, "cap 0;");
                x.set(0, ground + 2, turn);
                for (int on = 0; on < 3; on++) {
                    x.race(on, 3);
                    Due.due("turn of ground " + ground + " on " + on, x.shown(0, 0), on == ground ? 100 + turn : 100);
                    Due.due("the other on " + on, x.shown(1, 0), 100);
                }
            }
        }
    }

    private static void grow() {
        Due.sentence("GROW (-9 .. 9, 0 at first");
        Unchanged.byEach("set(1, 1, #)", Sample::three, (x, v) -> x.set(1, 1, v), NO, -10, 10, LEAST, MOST);
        EvenStride x = Sample.luckless(100, 100);
        Due.due("about(1, 3) at first", x.about(1, 3), 0);
        int was = 0;
        for (int v : new int[] {-9, 9, -8, 8}) {
            Due.due("set(1, 1, " + v + ")", x.set(1, 1, v), was);
            Due.due("about(1, 3)", x.about(1, 3), v);
            was = v;
        }
        Due.due("the other's", x.about(0, 3), 0);
    }

    private static void growsWithinBounds() {
        Due.sentence("STRENGTH is so much more behind each RACE of its own, 0 .. 200");
        int[][] rows = {
            {190, 9, 199}, {191, 9, 200}, {192, 9, 200}, {200, 9, 200}, {200, 1, 200}, {199, 1, 200}, {200, -9, 191},
            {10, -9, 1}, {9, -9, 0}, {8, -9, 0}, {0, -9, 0}, {0, -1, 0}, {1, -1, 0}, {0, 9, 9}, {100, 0, 100},
            {0, 0, 0}, {200, 0, 200},
        };
        for (int[] row : rows) {
            EvenStride x = Sample.luckless(row[0], 100);
            x.set(0, 1, row[1]);
            x.race(0, 3);
            Due.due(row[0] + " that grows by " + row[1], x.about(0, 0), row[2]);
            x.set(0, 1, row[2] > 100 ? -9 : 9);
            x.race(0, 3);
            Due.due("and back", x.about(0, 0), row[2] > 100 ? row[2] - 9 : row[2] + 9);
        }
    }

    private static void growsBehindItsOwnRaces() {
        Due.sentence("behind each RACE of its own");
        EvenStride x = Sample.luckless(100, 100, 100);
        x.set(0, 1, 5);
        x.race(0, 6);
        Due.due("a race of others", x.about(0, 0), 100);
        x.race(0, 1);
        x.race(3, 3);
        Due.due("races that were refused", x.about(0, 0), 100);
        x.race(0, 3);
        Due.due("its own race", x.about(0, 0), 105);
        Due.due("it ran with what it had ahead of it", x.figure(0, 0), 100);
        x.race(1, 5);
        Due.due("its next", x.about(0, 0), 110);
        Due.due("one that does not grow", x.about(1, 0), 100);
    }

    private static void habit() {
        Due.sentence("a HABIT: 0 tries, 1 eases (EASE less), 2 pulls (PULL less)");
        Unchanged.byEach("set(1, 0, #)", Sample::three, (x, v) -> x.set(1, 0, v), NO, -1, 3, LEAST, MOST);
        EvenStride x = Sample.luckless(100, 100);
        Due.due("about(1, 2): it tries at first", x.about(1, 2), 0);
        int was = 0;
        for (int v : new int[] {1, 2, 0}) {
            Due.due("set(1, 0, " + v + ")", x.set(1, 0, v), was);
            Due.due("about(1, 2)", x.about(1, 2), v);
            was = v;
        }
    }

    private static void habitTakesEaseOrPull() {
        Due.sentence("less EASE or PULL by its HABIT");
        int[][] rows = {{0, 0}, {0, 50}, {50, 0}, {1, 49}, {50, 50}};
        for (int[] row : rows) {
            for (int habit = 0; habit < 3; habit++) {
                EvenStride x = Sample.luckless(20, 20);
                x.tune(1, row[0]);
                x.tune(2, row[1]);
                x.set(0, 0, habit);
                x.race(0, 3);
                int due = habit == 0 ? 20 : 20 - row[habit - 1];
                Due.due("habit " + habit + " of " + row[0] + " and " + row[1], x.shown(0, 0), due);
                Due.due("the figure may be below 0", x.figure(0, 0), due);
            }
        }
    }

    private static void mark() {
        Due.sentence("a MARK (0 .. 200; its STRENGTH as it comes)");
        Unchanged.byEach("set(1, 5, #)", Sample::three, (x, v) -> x.set(1, 5, v), NO, -1, 201, LEAST, MOST);
        for (int v : new int[] {0, 1, 199, 200}) {
            EvenStride x = Sample.luckless(v, 100);
            Due.due("mark as it comes", x.about(0, 1), v);
            Due.due("set(1, 5, " + v + ")", x.set(1, 5, v), 100);
            Due.due("about(1, 1)", x.about(1, 1), v);
            Due.due("the strength stays", x.about(1, 0), 100);
        }
    }

    private static void twelveFigures() {
        Due.sentence("FIGURES of its last RACES (12 at most are kept, the latest)");
        EvenStride x = Sample.luckless(100, 100, 100);
        for (int race = 1; race <= 26; race++) {
            x.set(0, 2, race - 13);
            x.race(0, 3);
            int kept = Math.min(race, 12);
            if (race == 1 || race >= 11 && race <= 14 || race >= 24) {
                Due.due("about(0, 4) behind " + race, x.about(0, 4), race);
                Due.due("about(0, 5) behind " + race, x.about(0, 5), kept);
                Due.due("the latest of " + race, x.figure(0, 0), 100 + race - 13);
                Due.due("the first that is kept of " + race, x.figure(0, kept - 1), 100 + race - 12 - kept);
                Due.due("one more of " + race, x.figure(0, kept), NO);
            }
        }
        Due.due("about(2, 5) of one that never ran", x.about(2, 5), 0);
        Due.due("figure(2, 0) of one that never ran", x.figure(2, 0), NO);
    }

    private static void spreadEasePull() {
        Due.sentence("SPREAD (0 .. 5; 2 at first), EASE (0 .. 50; 3), PULL (0 .. 50; 10)");
        int[] first = {2, 3, 10};
        int[] most = {5, 50, 50};
        for (int what = 0; what < 3; what++) {
            int which = what;
            Unchanged.byEach("tune(" + what + ", #)", Sample::three, (x, v) -> x.tune(which, v), BAD,
                -1, most[what] + 1, LEAST, MOST);
            EvenStride x = new EvenStride();
            Due.due("tune(" + what + ", 0)", x.tune(what, 0), first[what]);
            Due.due("tune(" + what + ", most)", x.tune(what, most[what]), 0);
            Due.due("tune(" + what + ", 1)", x.tune(what, 1), most[what]);
            Due.due("tune(" + what + ", most - 1)", x.tune(what, most[what] - 1), 1);
            for (int other = 0; other < 3; other++) {
                Due.due("then tune(" + other + ", 0)", x.tune(other, 0), other == what ? most[what] - 1 : first[other]);
            }
        }
    }

    private static void setOfWhat() {
        Due.sentence("Of a RUNNER HABIT (what = 0), GROW (1), TURN of GROUND 0, 1, 2 (2, 3, 4), MARK (5) becomes v");
        Unchanged.byEach("set(#, 0, 1)", Sample::three, (x, v) -> x.set(v, 0, 1), NO, -1, 3, 7, 8, 32, LEAST, MOST);
        Unchanged.byEach("set(1, #, 1)", Sample::three, (x, v) -> x.set(1, v, 1), NO, -1, 6, 32, LEAST, MOST);
        Unchanged.byEach("set(#, 5, 1)", Sample::eight, (x, v) -> x.set(v, 5, 1), NO, -1, 8);
        EvenStride x = Sample.eight();
        Due.due("set of the first of eight", x.set(0, 5, 200), 33);
        Due.due("set of the last of eight", x.set(7, 2, 20), 8);
        for (int what = 0; what < 6; what++) {
            EvenStride y = Sample.luckless(100, 90);
            y.set(0, what, 1);
            int[] due = {100, what == 5 ? 1 : 100, what == 0 ? 1 : 0, what == 1 ? 1 : 0, 0, 0};
            for (int k = 0; k < 6; k++) {
                Due.due("set(0, " + what + ", 1): about(0, " + k + ")", y.about(0, k), due[k]);
            }
        }
    }

    private static void aboutWhat() {
        Due.sentence("Of a RUNNER: 0 STRENGTH, 1 MARK, 2 HABIT, 3 GROW, 4 RACES that it ran, 5 how many FIGURES are kept.");
        Unchanged.byEach("about(1, #)", Sample::three, (x, v) -> x.about(1, v), NO, -1, 6, 32, LEAST, MOST);
        Unchanged.byEach("about(#, 0)", Sample::three, (x, v) -> x.about(v, 0), NO, -1, 3, 7, 8, 32, LEAST, MOST);
        Unchanged.byEach("about(#, 5)", Sample::eight, (x, v) -> x.about(v, 5), NO, -1, 8);
        EvenStride x = Sample.luckless(100, 90);
        x.set(1, 0, 2);
        x.set(1, 1, -7);
        x.race(0, 3);
        int[] due = {83, 80, 2, -7, 1, 1};
        for (int what = 0; what < 6; what++) {
            int which = what;
            Due.due("about(1, " + what + ")", x.about(1, what), due[what]);
            Unchanged.by("about(2, " + what + ")", Sample::three, y -> y.about(2, which),
                Sample.three().about(2, what));
        }
    }

    private static void figureK() {
        Due.sentence("The k-th FIGURE that is kept of a RUNNER, the latest first.");
        Unchanged.byEach("figure(0, #)", Sample::three, (x, v) -> x.figure(0, v), NO, -1, 2, 11, 12, 32, LEAST, MOST);
        Unchanged.byEach("figure(2, #)", Sample::three, (x, v) -> x.figure(2, v), NO, -1, 1);
        Unchanged.byEach("figure(#, 0)", Sample::three, (x, v) -> x.figure(v, 0), NO, -1, 3, 7, 8, 32, LEAST, MOST);
        Unchanged.byEach("figure(#, 0)", Sample::eight, (x, v) -> x.figure(v, 0), NO, -1, 8);
        EvenStride x = Sample.luckless(100, 90);
        x.race(0, 3);
        x.set(0, 2, 4);
        x.race(0, 3);
        Due.due("figure(0, 0): the latest", x.figure(0, 0), 104);
        Due.due("figure(0, 1): the one ahead of it", x.figure(0, 1), 100);
        Due.due("figure(0, 2): none", x.figure(0, 2), NO);
    }

    private static void tuneWhat() {
        Due.sentence("SPREAD (what = 0), EASE (1), PULL (2) becomes v: what it was. BAD.");
        Unchanged.byEach("tune(#, 1)", Sample::three, (x, v) -> x.tune(v, 1), BAD, -1, 3, 32, LEAST, MOST);
    }

    private static void lot() {
        Due.sentence("The LOT becomes v: what it was.");
        EvenStride x = new EvenStride();
        int was = 1;
        for (int v : new int[] {0, -1, LEAST, MOST, LEAST + 1, MOST - 1, 1}) {
            Due.due("lot(" + v + ")", x.lot(v), was);
            Due.due("count(3)", x.count(3), v);
            was = v;
        }
    }
}
