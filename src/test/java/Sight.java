import java.util.ArrayList;
import java.util.List;

/**
 * All that can be seen of an object, as calls with their answers. Much of it is
 * seen only by calls that change it (a TURN by set, THE TEXT by rule, an IMAGE by
 * back), so an object that was looked at is of no use after that.
 */
final class Sight {
    private final EvenStride x;
    private final List<String> seen = new ArrayList<>();

    private Sight(EvenStride x) {
        this.x = x;
    }

    static List<String> of(EvenStride x) {
        Sight sight = new Sight(x);
        sight.latestRace();
        sight.yard();
        sight.settings();
        sight.text();
        sight.image(0);
        sight.image(1);
        // with the calls that made the object these must stay within the 512 that are promised
        Due.holds("a sight of " + sight.seen.size() + " calls", sight.seen.size() <= 400);
        return sight.seen;
    }

    private void see(String call, long answer) {
        seen.add(call + " = " + answer);
    }

    private void latestRace() {
        int runners = x.count(0);
        for (int i = 0; i < runners; i++) {
            for (int what = 0; what < 3; what++) {
                see("shown(" + i + ", " + what + ")", x.shown(i, what));
            }
        }
    }

    private void yard() {
        int runners = x.count(0);
        see("count(0)", runners);
        see("count(1)", x.count(1));
        see("count(3)", x.count(3));
        for (int i = 0; i < runners; i++) {
            for (int what = 0; what < 6; what++) {
                see("about(" + i + ", " + what + ")", x.about(i, what));
            }
            int kept = x.about(i, 5);
            for (int k = 0; k < kept; k++) {
                see("figure(" + i + ", " + k + ")", x.figure(i, k));
            }
            for (int what = 2; what < 5; what++) {
                see("set(" + i + ", " + what + ", 0)", x.set(i, what, 0));
            }
        }
    }

    private void settings() {
        see("trace()", x.trace());
        for (int what = 0; what < 3; what++) {
            see("tune(" + what + ", 0)", x.tune(what, 0));
        }
        for (int race = 0; race < 10; race++) {
            see("card(" + race + ", 0, 0)", x.card(race, 0, 0));
            see("card(" + race + ", 1, 0)", x.card(race, 1, 0));
        }
        for (int k = 0; k < 6; k++) {
            see("hull(" + k + ", 0)", x.hull(k, 0));
        }
        told();
    }

    private void told() {
        for (int what = 0; what < 6; what++) {
            see("told(" + what + ")", x.told(what));
        }
    }

    private void text() {
        see("count(2)", x.count(2));
        see("rule()", x.rule());
        told();
    }

    private void image(int image) {
        int races = x.back(image);
        see("back(" + image + ")", races);
        if (races >= 0) {
            yard();
        }
    }
}
