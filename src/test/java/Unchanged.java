import java.util.List;

/**
 * A call that is refused, or one that only asks, changes nothing: two objects are
 * made alike, one of them is asked, and then all that can be seen of both is alike.
 */
final class Unchanged {
    interface Maker {
        EvenStride make();
    }

    interface Call {
        long on(EvenStride x);
    }

    interface CallOf {
        long on(EvenStride x, int v);
    }

    private Unchanged() {
    }

    static void by(String call, Maker made, Call asked, long due) {
        EvenStride x = made.make();
        Due.due(call, asked.on(x), due);
        List<String> is = Sight.of(x);
        List<String> was = Sight.of(made.make());
        int k = 0;
        while (k < is.size() && k < was.size() && is.get(k).equals(was.get(k))) {
            k++;
        }
        boolean alike = k == is.size() && k == was.size();
        String first = alike || k >= is.size() ? "" : ", first seen: " + is.get(k);
        Due.holds(call + " changes nothing" + first, alike);
    }

    /** The same for each of some numbers, which stand in the call's name where # is. */
    static void byEach(String call, Maker made, CallOf asked, long due, int... values) {
        for (int v : values) {
            by(call.replace("#", Integer.toString(v)), made, x -> asked.on(x, v), due);
        }
    }
}
