import java.util.ArrayList;
import java.util.Collections;
import java.util.HashMap;
import java.util.List;
import java.util.Map;
import java.util.TreeMap;

/**
 * The document once more, written apart from the class and without a thought of
 * speed: RandomRunsTest holds the two against one another. PlainReader reads THE
 * TEXT.
 */
final class PlainStride {
    static final int BAD = -1, STATE = -2, FULL = -3, NO = -1000000;

    static final class Horse {
        int strength, mark, habit, grow, ran;
        Map<Integer, Integer> turn = new HashMap<>(Map.of(0, 0, 1, 0, 2, 0));
        List<Integer> figures = new ArrayList<>();

        Horse copy() {
            Horse other = new Horse();
            other.strength = strength;
            other.mark = mark;
            other.habit = habit;
            other.grow = grow;
            other.ran = ran;
            other.turn = new HashMap<>(turn);
            other.figures = new ArrayList<>(figures);
            return other;
        }
    }

    static final class Image {
        List<Horse> horses = new ArrayList<>();
        int lot;
        int races;
    }

    List<Horse> horses = new ArrayList<>();
    int lot = 1;
    int races;
    int spread = 2, ease = 3, pull = 10;
    StringBuilder text = new StringBuilder();
    int[] rule = {1, 1, 1, 1, 200, 200};
    int[][] cards = new int[10][2];
    int[] hulls = {1, 0, 0, 0, 0, 1};
    long trace;
    Map<Integer, int[]> latest = new HashMap<>();
    Map<Integer, Image> images = new HashMap<>();

    private static boolean in(long v, long least, long most) {
        return least <= v && v <= most;
    }

    private boolean here(int i) {
        return in(i, 0, horses.size() - 1);
    }

    /** The numbers of a set, or null if there is none to race. */
    private List<Integer> members(int ground, int set) {
        List<Integer> of = new ArrayList<>();
        for (int bit = 0; bit < 32; bit++) {
            if ((set & 1 << bit) != 0) {
                of.add(bit);
            }
        }
        boolean fits = in(ground, 0, 2) && of.size() >= 2 && of.get(of.size() - 1) < horses.size();
        return fits ? of : null;
    }

    int runner(int strength) {
        if (!in(strength, 0, 200)) {
            return BAD;
        }
        if (horses.size() == 8) {
            return FULL;
        }
        Horse horse = new Horse();
        horse.strength = strength;
        horse.mark = strength;
        horses.add(horse);
        return horses.size() - 1;
    }

    int set(int i, int what, int v) {
        if (!here(i)) {
            return NO;
        }
        Horse horse = horses.get(i);
        int was = NO;
        if (what == 0 && in(v, 0, 2)) {
            was = horse.habit;
            horse.habit = v;
        } else if (what == 1 && in(v, -9, 9)) {
            was = horse.grow;
            horse.grow = v;
        } else if (in(what, 2, 4) && in(v, -20, 20)) {
            was = horse.turn.put(what - 2, v);
        } else if (what == 5 && in(v, 0, 200)) {
            was = horse.mark;
            horse.mark = v;
        }
        return was;
    }

    int about(int i, int what) {
        if (!here(i) || !in(what, 0, 5)) {
            return NO;
        }
        Horse h = horses.get(i);
        return new int[] {h.strength, h.mark, h.habit, h.grow, h.ran, h.figures.size()}[what];
    }

    int figure(int i, int k) {
        return here(i) && in(k, 0, horses.get(i).figures.size() - 1) ? horses.get(i).figures.get(k) : NO;
    }

    int tune(int what, int v) {
        int was = BAD;
        if (what == 0 && in(v, 0, 5)) {
            was = spread;
            spread = v;
        } else if (what == 1 && in(v, 0, 50)) {
            was = ease;
            ease = v;
        } else if (what == 2 && in(v, 0, 50)) {
            was = pull;
            pull = v;
        }
        return was;
    }

    int lot(int v) {
        int was = lot;
        lot = v;
        return was;
    }

    int type(long v, int n) {
        if (!in(n, 1, 8)) {
            return BAD;
        }
        if (text.length() + n > 200) {
            return FULL;
        }
        StringBuilder more = new StringBuilder();
        for (int k = 0; k < n; k++) {
            more.append((char) Math.floorMod(v, 256L));
            v = Math.floorDiv(v, 256L);
        }
        return text.append(more.reverse()).length();
    }

    int clear() {
        int was = text.length();
        text = new StringBuilder();
        return was;
    }

    int rule() {
        int[] told = {1, 1, 1, 1, 200, 200};
        int answer = new PlainReader(text.toString(), told).answer();
        if (answer >= 0) {
            rule = told;
            clear();
        }
        return answer;
    }

    int told(int what) {
        return in(what, 0, 5) ? rule[what] : BAD;
    }

    private int markBy(List<Integer> figures, int mark) {
        List<Integer> last = new ArrayList<>(figures.subList(0, Math.min(rule[1], figures.size())));
        last.sort(Collections.reverseOrder());
        last = last.subList(0, Math.min(rule[0], last.size()));
        int sum = 0;
        for (int figure : last) {
            sum += figure - mark > rule[5] ? mark + rule[5] : figure;
        }
        int aim = (int) Math.floor((double) sum / last.size());
        int move = rule[2] * (aim - mark) / rule[3];
        if (move > rule[4]) {
            move = rule[4];
        }
        if (move < -rule[4]) {
            move = -rule[4];
        }
        return Math.min(200, Math.max(0, mark + move));
    }

    private void finish(Horse horse, int figure) {
        horse.figures.add(0, figure);
        horse.mark = markBy(horse.figures, horse.mark);
        if (horse.figures.size() > 12) {
            horse.figures.remove(12);
        }
        horse.ran++;
        horse.strength = Math.min(200, Math.max(0, horse.strength + horse.grow));
    }

    private int leastMark(List<Integer> of) {
        int least = 200;
        for (int i : of) {
            least = Math.min(least, horses.get(i).mark);
        }
        return least;
    }

    private int bare(Horse h, int ground) {
        return h.strength + h.turn.get(ground) - (h.habit == 0 ? 0 : h.habit == 1 ? ease : pull);
    }

    int race(int ground, int set) {
        List<Integer> of = members(ground, set);
        if (of == null) {
            return BAD;
        }
        int least = leastMark(of);
        latest.clear();
        int first = of.get(0);
        for (int i : of) {
            Horse h = horses.get(i);
            lot = lot * 1103515245 + 12345;
            int luck = (int) ((lot & 0xffffffffL) / 65536 % (2 * spread + 1)) - spread;
            int weight = h.mark - least;
            latest.put(i, new int[] {bare(h, ground) + luck - weight, weight, luck});
            if (latest.get(i)[0] > latest.get(first)[0]) {
                first = i;
            }
        }
        for (int i : of) {
            finish(horses.get(i), latest.get(i)[0] + latest.get(i)[1]);
        }
        races++;
        return first;
    }

    int shown(int i, int what) {
        return latest.containsKey(i) && in(what, 0, 2) ? latest.get(i)[what] : NO;
    }

    int weight(int i, int set) {
        List<Integer> of = members(0, set);
        return of == null || !of.contains(i) ? BAD : horses.get(i).mark - leastMark(of);
    }

    /** Rows by who leads so far and what he shows, one runner after another. */
    private Map<Integer, Long> rows(Map<Integer, Integer> levels) {
        Map<List<Integer>, Long> leads = new HashMap<>();
        for (int i : levels.keySet()) {
            Map<List<Integer>, Long> next = new HashMap<>();
            for (int luck = -spread; luck <= spread; luck++) {
                int shown = levels.get(i) + luck;
                if (leads.isEmpty()) {
                    next.merge(List.of(i, shown), 1L, Long::sum);
                }
                for (Map.Entry<List<Integer>, Long> lead : leads.entrySet()) {
                    boolean passed = shown > lead.getKey().get(1);
                    next.merge(passed ? List.of(i, shown) : lead.getKey(), lead.getValue(), Long::sum);
                }
            }
            leads = next;
        }
        Map<Integer, Long> rows = new TreeMap<>();
        for (int i : levels.keySet()) {
            rows.put(i, 0L);
        }
        for (Map.Entry<List<Integer>, Long> lead : leads.entrySet()) {
            rows.merge(lead.getKey().get(0), lead.getValue(), Long::sum);
        }
        return rows;
    }

    private Map<Integer, Integer> levels(int ground, List<Integer> of) {
        Map<Integer, Integer> levels = new TreeMap<>();
        for (int i : of) {
            levels.put(i, bare(horses.get(i), ground) - horses.get(i).mark + leastMark(of));
        }
        return levels;
    }

    private static long closeOf(Map<Integer, Long> rows) {
        long all = 0;
        for (long each : rows.values()) {
            all += each;
        }
        long close = 0;
        for (long each : rows.values()) {
            close += Math.abs(rows.size() * each - all);
        }
        return close;
    }

    long odds(int ground, int set, int i) {
        List<Integer> of = members(ground, set);
        if (of == null || i != -1 && !of.contains(i)) {
            return BAD;
        }
        if (i >= 0) {
            return rows(levels(ground, of)).get(i);
        }
        return Math.round(Math.pow(2 * spread + 1, of.size()));
    }

    long close(int ground, int set) {
        List<Integer> of = members(ground, set);
        return of == null ? BAD : closeOf(rows(levels(ground, of)));
    }

    long even(int ground, int set, int i) {
        List<Integer> of = members(ground, set);
        if (of == null || i != -1 && !of.contains(i)) {
            return BAD;
        }
        if (of.size() > 3) {
            return STATE;
        }
        long best = Long.MAX_VALUE;
        int[] by = null;
        for (int a = 0; a <= 20; a++) {
            for (int b = 0; b <= 20; b++) {
                for (int c = 0; c <= (of.size() == 2 ? 0 : 20); c++) {
                    int[] weights = {a, b, c};
                    if (of.size() == 2 ? a * b != 0 : a * b * c != 0) {
                        continue;
                    }
                    Map<Integer, Integer> levels = new TreeMap<>();
                    for (int k = 0; k < of.size(); k++) {
                        levels.put(of.get(k), bare(horses.get(of.get(k)), ground) - weights[k]);
                    }
                    long close = closeOf(rows(levels));
                    if (close < best) {
                        best = close;
                        by = weights;
                    }
                }
            }
        }
        return i == -1 ? best : by[of.indexOf(i)];
    }

    int good(int n, int d, int what) {
        if (!in(n, 1, 6) || !in(d, 0, 20) || !in(what, 0, 1)) {
            return BAD;
        }
        return goodRows(new ArrayList<>(), n, what == 1 ? -1 : d);
    }

    private int goodRows(List<Integer> lucks, int n, int d) {
        if (lucks.size() == n) {
            List<Integer> row = new ArrayList<>(lucks);
            Collections.sort(row);
            return d < 0 || row.get(n - 1) - row.get((n - 1) / 2) >= d ? 1 : 0;
        }
        int sum = 0;
        for (int luck = -spread; luck <= spread; luck++) {
            lucks.add(luck);
            sum += goodRows(lucks, n, d);
            lucks.remove(lucks.size() - 1);
        }
        return sum;
    }

    int behind(int strength, int grow, int n) {
        if (!in(strength, 0, 200) || !in(grow, -9, 9) || !in(n, 0, 40)) {
            return NO;
        }
        Horse h = new Horse();
        h.strength = strength;
        h.mark = strength;
        h.grow = grow;
        for (int k = 0; k < n; k++) {
            finish(h, h.strength);
        }
        return h.strength - h.mark;
    }

    int card(int race, int what, int v) {
        if (!in(race, 0, 9) || !in(what, 0, 1) || !in(v, 0, 200)) {
            return BAD;
        }
        int was = cards[race][what];
        cards[race][what] = v;
        return was;
    }

    private int wins(int strength, int n, int pulls) {
        int won = 0;
        int mark = strength;
        List<Integer> figures = new ArrayList<>();
        for (int race = 0; race < n; race++) {
            boolean tries = (pulls & 1 << race) == 0;
            int weight = Math.max(0, mark - cards[race][0]);
            for (int luck = -spread; luck <= spread; luck++) {
                if (tries && strength + luck - weight >= cards[race][0]) {
                    won += cards[race][1];
                }
            }
            figures.add(0, tries ? strength : strength - pull);
            mark = markBy(figures, mark);
        }
        return won;
    }

    int plan(int strength, int n, int what) {
        if (!in(strength, 0, 200) || !in(n, 1, 10) || !in(what, 0, 2)) {
            return BAD;
        }
        int best = wins(strength, n, 0);
        if (what == 2) {
            return best;
        }
        int set = 0;
        for (int pulls = 1; pulls < 1 << n; pulls++) {
            int won = wins(strength, n, pulls);
            if (won > best) {
                best = won;
                set = pulls;
            }
        }
        return what == 0 ? set : best;
    }

    int hull(int k, int v) {
        if (!in(k, 0, 5) || !in(v, -9, 9)) {
            return NO;
        }
        int was = hulls[k];
        hulls[k] = v;
        return was;
    }

    int beats(int limit, int what) {
        if (!in(limit, -500, 500) || !in(what, 0, 3)) {
            return NO;
        }
        int[] best = {NO, NO, NO, NO};
        for (int a = 1; a <= 12; a++) {
            for (int b = 1; b <= 12; b++) {
                for (int c = 1; c <= 12; c++) {
                    int speed = a * hulls[3] + b * hulls[4] + c * hulls[5];
                    if (a * hulls[0] + b * hulls[1] + c * hulls[2] <= limit && speed > best[3]) {
                        best = new int[] {a, b, c, speed};
                    }
                }
            }
        }
        return best[what];
    }

    int reading(int kind, int i) {
        if (!in(kind, 0, 6) || !here(i)) {
            return NO;
        }
        Horse h = horses.get(i);
        int eased = h.mark + ease;
        int pulled = 2 * eased - pull;
        trace += new int[] {1, 11, 101, 1101, 10001, 100001, 1001101}[kind];
        return new int[] {
            h.mark, h.mark + spread, eased, pulled, h.mark + h.turn.get(0), h.mark + 5 * h.grow, pulled / 2,
        }[kind];
    }

    private static List<Horse> copyOf(List<Horse> horses) {
        List<Horse> copies = new ArrayList<>();
        for (Horse horse : horses) {
            copies.add(horse.copy());
        }
        return copies;
    }

    int keep(int image) {
        if (!in(image, 0, 1)) {
            return BAD;
        }
        Image kept = new Image();
        kept.horses = copyOf(horses);
        kept.lot = lot;
        kept.races = races;
        images.put(image, kept);
        return races;
    }

    int back(int image) {
        if (!in(image, 0, 1)) {
            return BAD;
        }
        Image kept = images.get(image);
        if (kept == null) {
            return STATE;
        }
        horses = copyOf(kept.horses);
        lot = kept.lot;
        races = kept.races;
        latest.clear();
        return races;
    }

    int count(int what) {
        return in(what, 0, 3) ? new int[] {horses.size(), races, text.length(), lot}[what] : NO;
    }
}
