/** What the document says of edges in KINDS and IMAGES and in promises 24 to 28, a sentence a method. */
public final class KindsEdgesTest {
    private static final int LEAST = Integer.MIN_VALUE, MOST = Integer.MAX_VALUE;
    private static final int BAD = EvenStride.BAD, STATE = EvenStride.STATE, FULL = EvenStride.FULL, NO = EvenStride.NO;

    public static void main(String[] args) {
        readingRefuses();
        readingLeastAndMost();
        hiddenRoundedTowardZero();
        traceByBodies();
        traceOfARefusedReading();
        keepImage();
        backImage();
        backOfNone();
        badAheadOfState();
        imageOfNoRunners();
        imageOfEight();
        imageKeepsAllThatIsTheirs();
        imageKeepsTwelveFigures();
        imageKeepsNothingElse();
        imageIsKeptAgain();
        noneIsTheLatestRace();
        lotAndRacesGoOnFromAnImage();
        runnersComeCleanBehindAnImage();
        count();
        countOfText();
        call512();
        Due.end("KindsEdgesTest");
    }

    private static void readingRefuses() {
        Due.sentence("READING. NO: BAD.");
        Unchanged.byEach("reading(#, 0)", Sample::three, (x, v) -> x.reading(v, 0), NO, -1, 7, 8, 32, LEAST, MOST);
        for (int kind = 0; kind < 7; kind++) {
            int as = kind;
            Unchanged.byEach("reading(" + kind + ", #)", Sample::three, (x, v) -> x.reading(as, v), NO,
                -1, 3, 7, 8, 32, LEAST, MOST);
            Unchanged.byEach("reading(" + kind + ", #) of eight", Sample::eight, (x, v) -> x.reading(as, v), NO, -1, 8);
        }
        EvenStride x = Sample.eight();
        Due.due("reading of the first kind and runner", x.reading(0, 0), 33);
        Due.due("reading of the last kind and runner", x.reading(6, 7), (2 * (x.about(7, 1) + 7) - 20) / 2);
    }

    private static void readings(String of, EvenStride x, int... due) {
        for (int kind = 0; kind < 7; kind++) {
            Due.due(of + ": reading(" + kind + ", 0)", x.reading(kind, 0), due[kind]);
        }
    }

    private static EvenStride tuned(int strength, int spread, int ease, int pull) {
        EvenStride x = Sample.luckless(strength);
        x.tune(0, spread);
        x.tune(1, ease);
        x.tune(2, pull);
        return x;
    }

    private static void readingLeastAndMost() {
        Due.sentence("RUN its MARK (1). TRIED up, and SPREAD (10). EASED up, and EASE (100). PULLED twice up, less PULL (1000)."
            + " ODD up, and TURN of GROUND 0 (10000). YOUNG up, and 5 GROW (100000). HIDDEN half of up");
        EvenStride least = tuned(0, 0, 0, 50);
        least.set(0, 1, -9);
        least.set(0, 2, -20);
        readings("the least", least, 0, 0, 0, -50, -20, -45, -25);
        EvenStride most = tuned(200, 5, 50, 0);
        most.set(0, 1, 9);
        most.set(0, 2, 20);
        readings("the most", most, 200, 205, 250, 500, 220, 245, 250);
        readings("all 0", tuned(0, 0, 0, 0), 0, 0, 0, 0, 0, 0, 0);
        EvenStride others = tuned(100, 0, 0, 0);
        others.set(0, 0, 2);
        others.set(0, 3, 20);
        others.set(0, 4, 20);
        readings("HABIT and the TURNS of other GROUNDS don't count", others, 100, 100, 100, 200, 100, 100, 100);
        others.set(0, 5, 60);
        readings("its MARK, not its STRENGTH", others, 60, 60, 60, 120, 60, 60, 60);
    }

    private static void hiddenRoundedTowardZero() {
        Due.sentence("HIDDEN half of up, rounded toward 0 (1000000).");
        int[] due = {2, 1, 1, 0, 0, 0, -1, -1, -2};
        for (int k = 0; k < due.length; k++) {
            // up is 4 - k
            EvenStride x = tuned(2, 0, 0, k);
            Due.due("half of " + (4 - k), x.reading(6, 0), due[k]);
            Due.due("up", x.reading(3, 0), 4 - k);
        }
    }

    private static void traceByBodies() {
        Due.sentence("numbers in brackets come to THE TRACE as often as reading() asks that body");
        long[] more = {1, 11, 101, 1101, 10001, 100001, 1001101};
        EvenStride x = Sample.luckless(50);
        Due.due("trace() at first", x.trace(), 0);
        long sum = 0;
        for (int round = 0; round < 12; round++) {
            for (int kind = 0; kind < 7; kind++) {
                x.reading(kind, 0);
                sum += more[kind];
                Due.due("trace() behind kind " + kind, x.trace(), sum);
            }
        }
        Unchanged.by("trace() only asks", Sample::three, EvenStride::trace, 1001101);
    }

    private static void traceOfARefusedReading() {
        Due.sentence("Refused, and nothing changes");
        EvenStride x = Sample.luckless(50);
        x.reading(7, 0);
        x.reading(-1, 0);
        x.reading(6, 1);
        x.reading(6, -1);
        Due.due("trace()", x.trace(), 0);
        x.reading(6, 0);
        Due.due("trace()", x.trace(), 1001101);
    }

    private static void keepImage() {
        Due.sentence("An IMAGE is kept: how many RACES there were. BAD.");
        Unchanged.byEach("keep(#)", Sample::three, (x, v) -> x.keep(v), BAD, -1, 2, 3, 32, LEAST, MOST);
        for (int image = 0; image < 2; image++) {
            EvenStride x = Sample.luckless(50, 50);
            Due.due("keep(" + image + ") ahead of all races", x.keep(image), 0);
            x.race(0, 3);
            Due.due("keep(" + image + ") behind one", x.keep(image), 1);
            x.race(0, 1);
            Due.due("keep(" + image + ") behind one refused", x.keep(image), 1);
            Due.due("the race is the latest still", x.shown(0, 0), 50);
        }
    }

    private static void backImage() {
        Due.sentence("All of that becomes as an IMAGE has it (none is the latest RACE then): how many RACES. BAD");
        Unchanged.byEach("back(#)", Sample::three, (x, v) -> x.back(v), BAD, -1, 2, 3, 32, LEAST, MOST);
        EvenStride x = Sample.three();
        Due.due("back(0)", x.back(0), 1);
        Due.due("count(1)", x.count(1), 1);
        Due.due("back(1)", x.back(1), 0);
        Due.due("count(1)", x.count(1), 0);
        Due.due("back(0) again", x.back(0), 1);
    }

    /** One that has all but images. */
    private static EvenStride withoutImages() {
        EvenStride x = Sample.luckless(50, 60);
        x.race(0, 3);
        Due.typed(x, "cap 3;");
        return x;
    }

    private static EvenStride withImage(int image) {
        EvenStride x = withoutImages();
        x.keep(image);
        return x;
    }

    private static void backOfNone() {
        Due.sentence("STATE: none was kept.");
        Unchanged.byEach("back(#) of a new object", EvenStride::new, (x, v) -> x.back(v), STATE, 0, 1);
        Unchanged.byEach("back(#) where none was kept", KindsEdgesTest::withoutImages, (x, v) -> x.back(v), STATE, 0, 1);
        Unchanged.by("back(0) where 1 was kept", () -> withImage(1), x -> x.back(0), STATE);
        Unchanged.by("back(1) where 0 was kept", () -> withImage(0), x -> x.back(1), STATE);
        Due.due("back(1) where 1 was kept", withImage(1).back(1), 1);
        Due.due("back(0) where 0 was kept", withImage(0).back(0), 1);
    }

    private static void badAheadOfState() {
        Due.sentence("Refused, and nothing changes, the first of these: BAD");
        Unchanged.byEach("back(#) of a new object", EvenStride::new, (x, v) -> x.back(v), BAD, -1, 2, LEAST, MOST);
        Unchanged.byEach("keep(#) of a new object", EvenStride::new, (x, v) -> x.keep(v), BAD, -1, 2, LEAST, MOST);
    }

    private static void imageOfNoRunners() {
        Due.sentence("IMAGES 0, 1 keep RUNNERS with all that is theirs");
        EvenStride x = new EvenStride();
        Due.due("keep(0) of nothing", x.keep(0), 0);
        for (int i = 0; i < 8; i++) {
            x.runner(100);
        }
        x.race(0, 255);
        Due.due("back(0)", x.back(0), 0);
        Due.due("count(0)", x.count(0), 0);
        Due.due("count(3)", x.count(3), 1);
        Due.due("race(0, 3) of none", x.race(0, 3), BAD);
        for (int i = 0; i < 8; i++) {
            Due.due("about(" + i + ", 0)", x.about(i, 0), NO);
            Due.due("shown(" + i + ", 0)", x.shown(i, 0), NO);
        }
        Due.due("runner(7)", x.runner(7), 0);
    }

    private static void imageOfEight() {
        Due.sentence("IMAGES 0, 1 keep RUNNERS with all that is theirs");
        EvenStride x = Sample.luckless(1, 2, 3, 4, 5, 6, 7);
        x.keep(0);
        Due.due("the eighth", x.runner(8), 7);
        x.keep(1);
        Due.due("the ninth", x.runner(9), FULL);
        Due.due("back(0)", x.back(0), 0);
        Due.due("seven are there", x.count(0), 7);
        Due.due("another eighth", x.runner(80), 7);
        Due.due("the ninth again", x.runner(9), FULL);
        Due.due("back(1)", x.back(1), 0);
        Due.due("eight are there", x.count(0), 8);
        Due.due("the eighth as it was", x.about(7, 0), 8);
        Due.due("the ninth once more", x.runner(9), FULL);
    }

    private static void imageKeepsAllThatIsTheirs() {
        Due.sentence("keep RUNNERS with all that is theirs, the LOT, how many RACES there were");
        for (int image = 0; image < 2; image++) {
            int which = image;
            // what back brings must be seen as if nothing had come since
            EvenStride x = Sample.eight();
            x.keep(image);
            EvenStride y = Sample.eight();
            y.keep(image);
            for (int i = 0; i < 8; i++) {
                y.set(i, 0, (i + 1) % 3);
                y.set(i, 1, 9 - i);
                y.set(i, 2, 20);
                y.set(i, 3, -20);
                y.set(i, 4, 1 - i);
                y.set(i, 5, 200 - i);
            }
            for (int race = 0; race < 13; race++) {
                y.race(race % 3, 255);
            }
            y.lot(5);
            Due.due("back(" + which + ")", y.back(which), x.back(which));
            Due.due("all that can be seen", Sight.of(y).equals(Sight.of(x)) ? 1 : 0, 1);
        }
    }

    private static void imageKeepsTwelveFigures() {
        Due.sentence("IMAGES 0, 1 keep RUNNERS with all that is theirs");
        for (int races : new int[] {11, 12, 13}) {
            EvenStride x = Sample.luckless(100, 100);
            for (int race = 1; race <= 25; race++) {
                x.set(0, 2, race - 13);
                x.race(0, 3);
                if (race == races) {
                    x.keep(0);
                }
            }
            Due.due("back(0)", x.back(0), races);
            Due.due("RACES that it ran", x.about(0, 4), races);
            int kept = Math.min(12, races);
            Due.due("FIGURES that are kept", x.about(0, 5), kept);
            for (int k = 0; k <= kept; k++) {
                Due.due("figure(0, " + k + ") of " + races, x.figure(0, k), k == kept ? NO : 100 + races - k - 13);
            }
        }
    }

    private static void imageKeepsNothingElse() {
        Due.sentence("nothing else.");
        EvenStride x = Sample.three();
        x.tune(0, 4);
        x.tune(1, 5);
        x.tune(2, 6);
        x.card(0, 0, 9);
        x.hull(0, 9);
        x.reading(0, 0);
        x.type(' ', 1);
        Due.due("back(0)", x.back(0), 1);
        Due.due("SPREAD", x.tune(0, 0), 4);
        Due.due("EASE", x.tune(1, 0), 5);
        Due.due("PULL", x.tune(2, 0), 6);
        Due.due("a BAR", x.card(0, 0, 0), 9);
        Due.due("a PRIZE", x.card(9, 1, 0), 60);
        Due.due("a number of HULLS", x.hull(0, 0), 9);
        Due.due("THE TRACE", x.trace(), 1001102);
        Due.due("THE TEXT", x.count(2), 15);
        Due.due("K of THE RULE", x.told(0), 2);
        Due.due("THE TEXT as it was typed", x.rule(), 2);
        Due.due("back(1)", x.back(1), 0);
        Due.due("C of THE RULE", x.told(4), 57);
        Due.due("the other IMAGE", x.back(0), 1);
    }

    private static void imageIsKeptAgain() {
        Due.sentence("An IMAGE is kept");
        EvenStride x = Sample.luckless(50, 60);
        x.keep(0);
        x.keep(1);
        x.race(0, 3);
        x.runner(70);
        Due.due("keep(0) again", x.keep(0), 1);
        Due.due("back(1) is as it was", x.back(1), 0);
        Due.due("of two", x.count(0), 2);
        Due.due("back(0) is the later one", x.back(0), 1);
        Due.due("of three", x.count(0), 3);
        x.set(0, 5, 1);
        x.set(0, 2, 9);
        Due.due("what is set behind back is not in the IMAGE", x.back(0), 1);
        Due.due("mark", x.about(0, 1), 50);
        Due.due("turn", x.set(0, 2, 0), 0);
    }

    private static void noneIsTheLatestRace() {
        Due.sentence("(none is the latest RACE then)");
        EvenStride x = Sample.luckless(50, 60);
        x.race(0, 3);
        x.keep(0);
        Due.due("shown ahead of back", x.shown(1, 1), 10);
        x.back(0);
        for (int i = 0; i < 2; i++) {
            for (int what = 0; what < 3; what++) {
                Due.due("shown(" + i + ", " + what + ") behind back", x.shown(i, what), NO);
            }
        }
        Due.due("the figures are there", x.about(0, 5), 1);
        x.runner(40);
        x.race(0, 5);
        Due.due("the next is the latest", x.shown(0, 1), 10);
        Due.due("it was not in it", x.shown(1, 1), NO);
    }

    private static void lotAndRacesGoOnFromAnImage() {
        Due.sentence("keep RUNNERS with all that is theirs, the LOT, how many RACES there were");
        EvenStride x = Sample.eight();
        x.tune(0, 5);
        x.keep(1);
        int first = x.race(2, 255);
        int lot = x.count(3);
        int[] shown = new int[8];
        for (int i = 0; i < 8; i++) {
            shown[i] = x.shown(i, 0);
        }
        x.back(1);
        Due.due("the same race again", x.race(2, 255), first);
        Due.due("by the same lot", x.count(3), lot);
        Due.due("as many races", x.count(1), 3);
        for (int i = 0; i < 8; i++) {
            Due.due("the same is shown by " + i, x.shown(i, 0), shown[i]);
        }
    }

    private static void runnersComeCleanBehindAnImage() {
        Due.sentence("A RUNNER: its number.");
        EvenStride x = Sample.luckless(50, 60);
        x.keep(0);
        x.runner(70);
        for (int what = 0; what < 6; what++) {
            x.set(2, what, 2);
        }
        x.race(0, 7);
        x.back(0);
        Due.due("its number", x.runner(80), 2);
        int[] due = {80, 80, 0, 0, 0, 0};
        for (int what = 0; what < 6; what++) {
            Due.due("about(2, " + what + ")", x.about(2, what), due[what]);
        }
        for (int what = 2; what < 5; what++) {
            Due.due("turn " + what, x.set(2, what, 0), 0);
        }
        Due.due("figure(2, 0)", x.figure(2, 0), NO);
        Due.due("shown(2, 0)", x.shown(2, 0), NO);
    }

    private static void count() {
        Due.sentence("0 RUNNERS, 1 RACES, 2 bytes of THE TEXT, 3 the LOT. NO: BAD.");
        Unchanged.byEach("count(#)", Sample::three, (x, v) -> x.count(v), NO, -1, 4, 5, 32, LEAST, MOST);
        int[] due = {3, 2, 14, -77};
        for (int what = 0; what < 4; what++) {
            int which = what;
            Unchanged.by("count(" + what + ")", Sample::three, x -> x.count(which), due[what]);
        }
        EvenStride x = Sample.three();
        x.race(0, 1);
        Due.due("a race refused is none", x.count(1), 2);
        x.runner(201);
        Due.due("a runner refused is none", x.count(0), 3);
        x.lot(NO);
        Due.due("the LOT may be any number", x.count(3), NO);
    }

    private static void countOfText() {
        Due.sentence("2 bytes of THE TEXT");
        EvenStride x = new EvenStride();
        for (int n = 1; n <= 200; n++) {
            x.type(' ', 1);
            if (n < 3 || n > 197) {
                Due.due("count(2)", x.count(2), n);
            }
        }
        x.type(' ', 1);
        Due.due("count(2) when it is full", x.count(2), 200);
        x.clear();
        Due.due("count(2) when it is empty", x.count(2), 0);
    }

    private static void call512() {
        Due.sentence("An object is used for at most 512 calls after it has been made");
        EvenStride races = new EvenStride();
        races.runner(100);
        races.runner(100);
        for (int call = 3; call <= 510; call++) {
            races.race(call % 3, 3);
        }
        Due.due("call 511", races.count(1), 508);
        Due.due("call 512", races.about(1, 4), 508);
        EvenStride readings = new EvenStride();
        readings.runner(100);
        for (int call = 2; call <= 511; call++) {
            readings.reading(6, 0);
        }
        Due.due("call 512", readings.trace(), 510 * 1001101L);
        EvenStride typed = new EvenStride();
        for (int call = 1; call <= 511; call++) {
            typed.type(' ', 1);
        }
        Due.due("call 512", typed.clear(), 200);
    }
}
