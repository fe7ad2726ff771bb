/**
 * Races whose runners carry weights that are meant to let them finish together,
 * by a rule that is told by a text. What each call promises stands in DOC.md;
 * words in capitals there are the names here.
 */
public final class EvenStride {
    public static final int BAD = -1, STATE = -2, FULL = -3, NONE = -9;
    public static final int NO = -1000000;

    private static final int RUNNERS = 8;
    private static final int GROUNDS = 3;
    private static final int FIGURES = 12;
    private static final int TOP = 200;
    private static final int GROW_MOST = 9;
    private static final int IMAGES = 2;

    private static final int SPREAD = 0, EASE = 1, PULL = 2;
    private static final int[] TUNE_MOST = {5, 50, 50};

    private static final int[] SET_LEAST = {0, -9, -20, -20, -20, 0};
    private static final int[] SET_MOST = {2, 9, 20, 20, 20, 200};

    private static final int RUN = 0, TRIED = 1, EASED = 2, PULLED = 3, ODD = 4, YOUNG = 5, HIDDEN = 6;
    private static final int[] KIND_ABOVE = {RUN, RUN, RUN, EASED, RUN, RUN, PULLED};
    private static final int[] KIND_TRACE = {1, 10, 100, 1000, 10000, 100000, 1000000};

    private final Yard yard = new Yard();
    private final Yard[] images = new Yard[IMAGES];
    private final int[] tuned = {2, 3, 10};
    private final RuleText text = new RuleText();
    private final Rule law = new Rule();
    private final Rule draft = new Rule();
    private final Runner lone = new Runner();
    private final Field field = new Field();
    private final Stable stable = new Stable();
    private final Hulls hulls = new Hulls();
    private final int[] lastShown = new int[RUNNERS];
    private final int[] lastWeight = new int[RUNNERS];
    private final int[] lastLuck = new int[RUNNERS];
    private int lastSet;
    private long traced;

    public EvenStride() {
        for (int k = 0; k < IMAGES; k++) {
            images[k] = new Yard();
        }
    }

    // ---- runners, rules

    public int runner(int strength) {
        if (!within(strength, 0, TOP)) {
            return BAD;
        }
        if (yard.size >= RUNNERS) {
            return FULL;
        }
        yard.runners[yard.size].begin(strength);
        yard.size++;
        return yard.size - 1;
    }

    public int set(int i, int what, int v) {
        if (!isHere(i) || !within(what, 0, SET_MOST.length - 1)) {
            return NO;
        }
        if (!within(v, SET_LEAST[what], SET_MOST[what])) {
            return NO;
        }
        return yard.runners[i].change(what, v);
    }

    public int about(int i, int what) {
        if (!isHere(i)) {
            return NO;
        }
        Runner one = yard.runners[i];
        switch (what) {
            case 0: return one.strength;
            case 1: return one.mark;
            case 2: return one.habit;
            case 3: return one.grow;
            case 4: return one.ran;
            case 5: return one.kept;
            default: return NO;
        }
    }

    public int figure(int i, int k) {
        if (!isHere(i) || !within(k, 0, yard.runners[i].kept - 1)) {
            return NO;
        }
        return yard.runners[i].figures[k];
    }

    public int tune(int what, int v) {
        if (!within(what, 0, TUNE_MOST.length - 1) || !within(v, 0, TUNE_MOST[what])) {
            return BAD;
        }
        int was = tuned[what];
        tuned[what] = v;
        return was;
    }

    public int lot(int v) {
        int was = yard.lot;
        yard.lot = v;
        return was;
    }

    public int type(long v, int n) {
        if (!within(n, 1, 8)) {
            return BAD;
        }
        if (text.length + n > RuleText.BYTES) {
            return FULL;
        }
        for (int k = n - 1; k >= 0; k--) {
            text.append((int) (v >>> 8 * k) & 255);
        }
        return text.length;
    }

    public int clear() {
        int was = text.length;
        text.length = 0;
        return was;
    }

    public int rule() {
        int answer = text.readInto(draft);
        if (answer >= 0) {
            law.become(draft);
            text.length = 0;
        }
        return answer;
    }

    public int told(int what) {
        return within(what, 0, Rule.NUMBERS - 1) ? law.numbers[what] : BAD;
    }

    // ---- races

    public int race(int ground, int set) {
        if (!canRace(ground, set)) {
            return BAD;
        }
        int least = leastMark(set);
        int first = -1;
        for (int i = 0; i < yard.size; i++) {
            if (isOf(set, i)) {
                runOne(i, ground, least);
                if (first < 0 || lastShown[i] > lastShown[first]) {
                    first = i;
                }
            }
        }
        lastSet = set;
        yard.races++;
        return first;
    }

    public int shown(int i, int what) {
        if (!isHere(i) || !isOf(lastSet, i)) {
            return NO;
        }
        switch (what) {
            case 0: return lastShown[i];
            case 1: return lastWeight[i];
            case 2: return lastLuck[i];
            default: return NO;
        }
    }

    public int weight(int i, int set) {
        if (!canRace(0, set) || !isHere(i) || !isOf(set, i)) {
            return BAD;
        }
        return yard.runners[i].mark - leastMark(set);
    }

    // ---- odds

    public long odds(int ground, int set, int i) {
        if (!canAsk(ground, set, i)) {
            return BAD;
        }
        enter(ground, set);
        return i == -1 ? field.allRows() : field.rowsFirst(placeIn(set, i));
    }

    public long close(int ground, int set) {
        if (!canRace(ground, set)) {
            return BAD;
        }
        enter(ground, set);
        return field.distance(Field.FAR);
    }

    public long even(int ground, int set, int i) {
        if (!canAsk(ground, set, i)) {
            return BAD;
        }
        if (Integer.bitCount(set) > Field.EVEN_MOST) {
            return STATE;
        }
        enter(ground, set);
        field.seekEven();
        return i == -1 ? field.nearest : field.evenWeights[placeIn(set, i)];
    }

    public int good(int n, int d, int what) {
        if (!within(n, 1, 6) || !within(d, 0, 20) || !within(what, 0, 1)) {
            return BAD;
        }
        int lucks = 2 * tuned[SPREAD] + 1;
        return what == 1 ? power(lucks, n) : rowsTooGood(n, d, lucks - 1);
    }

    public int behind(int strength, int grow, int n) {
        if (!within(strength, 0, TOP) || !within(grow, -GROW_MOST, GROW_MOST) || !within(n, 0, 40)) {
            return NO;
        }
        lone.begin(strength);
        lone.grow = grow;
        for (int k = 0; k < n; k++) {
            lone.finish(lone.strength, law);
        }
        return lone.strength - lone.mark;
    }

    // ---- stables, hulls

    public int card(int race, int what, int v) {
        if (!within(race, 0, Stable.RACES - 1) || !within(what, 0, 1) || !within(v, 0, TOP)) {
            return BAD;
        }
        int[] row = what == 0 ? stable.bars : stable.prizes;
        int was = row[race];
        row[race] = v;
        return was;
    }

    public int plan(int strength, int n, int what) {
        if (!within(strength, 0, TOP) || !within(n, 1, Stable.RACES) || !within(what, 0, 2)) {
            return BAD;
        }
        stable.begin(strength, n, tuned[SPREAD], tuned[PULL], law);
        int score = stable.bestScore(what != 2);
        return what == 0 ? Stable.pullsOf(score) : Stable.wonOf(score);
    }

    public int hull(int k, int v) {
        if (!within(k, 0, Hulls.NUMBERS - 1) || !within(v, -9, 9)) {
            return NO;
        }
        int was = hulls.numbers[k];
        hulls.numbers[k] = v;
        return was;
    }

    public int beats(int limit, int what) {
        if (!within(limit, -500, 500) || !within(what, 0, 3) || !hulls.seek(limit)) {
            return NO;
        }
        switch (what) {
            case 0: return hulls.a;
            case 1: return hulls.b;
            case 2: return hulls.c;
            default: return hulls.speed;
        }
    }

    // ---- kinds, images

    public int reading(int kind, int i) {
        if (!within(kind, RUN, HIDDEN) || !isHere(i)) {
            return NO;
        }
        return readAs(kind, yard.runners[i]);
    }

    public int keep(int image) {
        if (!within(image, 0, IMAGES - 1)) {
            return BAD;
        }
        images[image].become(yard);
        images[image].kept = true;
        return yard.races;
    }

    public int back(int image) {
        if (!within(image, 0, IMAGES - 1)) {
            return BAD;
        }
        if (!images[image].kept) {
            return STATE;
        }
        yard.become(images[image]);
        lastSet = 0;
        return yard.races;
    }

    public int count(int what) {
        switch (what) {
            case 0: return yard.size;
            case 1: return yard.races;
            case 2: return text.length;
            case 3: return yard.lot;
            default: return NO;
        }
    }

    public long trace() {
        return traced;
    }

    // ---- what a call may ask

    private static boolean within(int v, int least, int most) {
        return v >= least && v <= most;
    }

    private static int clamp(int v, int least, int most) {
        return v < least ? least : v > most ? most : v;
    }

    private boolean isHere(int i) {
        return i >= 0 && i < yard.size;
    }

    private static boolean isOf(int set, int i) {
        return (set >> i & 1) != 0;
    }

    private boolean canRace(int ground, int set) {
        return within(ground, 0, GROUNDS - 1) && within(set, 0, (1 << yard.size) - 1)
            && Integer.bitCount(set) >= 2;
    }

    private boolean canAsk(int ground, int set, int i) {
        return canRace(ground, set) && (i == -1 || isHere(i) && isOf(set, i));
    }

    // ---- how a race goes

    private int leastMark(int set) {
        int least = TOP;
        for (int i = 0; i < yard.size; i++) {
            if (isOf(set, i)) {
                least = Math.min(least, yard.runners[i].mark);
            }
        }
        return least;
    }

    /** What a runner shows without luck and without weight. */
    private int bareLevel(Runner one, int ground) {
        int loss = one.habit == 1 ? tuned[EASE] : one.habit == 2 ? tuned[PULL] : 0;
        return one.strength + one.turn[ground] - loss;
    }

    private void runOne(int i, int ground, int least) {
        Runner one = yard.runners[i];
        int spread = tuned[SPREAD];
        lastLuck[i] = (yard.nextLot() >>> 16) % (2 * spread + 1) - spread;
        lastWeight[i] = one.mark - least;
        int figure = bareLevel(one, ground) + lastLuck[i];
        lastShown[i] = figure - lastWeight[i];
        one.finish(figure, law);
    }

    private void enter(int ground, int set) {
        int least = leastMark(set);
        field.begin(tuned[SPREAD]);
        for (int i = 0; i < yard.size; i++) {
            if (isOf(set, i)) {
                Runner one = yard.runners[i];
                field.add(bareLevel(one, ground), one.mark - least);
            }
        }
    }

    /** Where a runner of a set stands in the field, which has only the set's runners. */
    private static int placeIn(int set, int i) {
        return Integer.bitCount(set & (1 << i) - 1);
    }

    // ---- runs too good

    /** Lucks are counted from 0 to most here: only what lies between them matters. */
    private static int rowsTooGood(int n, int d, int most) {
        int rows = 0;
        for (int middle = 0; middle <= most; middle++) {
            rows += rowsWithMiddle(n, middle, most);
            if (d > 0) {
                rows -= rowsWithMiddle(n, middle, Math.min(most, middle + d - 1));
            }
        }
        return rows;
    }

    /** Of n lucks 0 .. greatest: rows whose lower middle one is just middle. */
    private static int rowsWithMiddle(int n, int middle, int greatest) {
        return rowsMiddleUpTo(n, middle, greatest) - rowsMiddleUpTo(n, middle - 1, greatest);
    }

    private static int rowsMiddleUpTo(int n, int middle, int greatest) {
        int needed = (n + 1) / 2;
        int ways = 1;
        int rows = 0;
        for (int low = 0; low <= n; low++) {
            if (low >= needed) {
                rows += ways * power(middle + 1, low) * power(greatest - middle, n - low);
            }
            ways = ways * (n - low) / (low + 1);
        }
        return rows;
    }

    private static int power(int base, int n) {
        int product = 1;
        for (int k = 0; k < n; k++) {
            product *= base;
        }
        return product;
    }

    // ---- kinds

    /** Each kind asks the one above it once; that has a lesser number, so four levels are the most. */
    private int readAs(int kind, Runner one) {
        traced += KIND_TRACE[kind];
        if (kind == RUN) {
            return one.mark;
        }
        int up = readAs(KIND_ABOVE[kind], one);
        switch (kind) {
            case TRIED: return up + tuned[SPREAD];
            case EASED: return up + tuned[EASE];
            case PULLED: return 2 * up - tuned[PULL];
            case ODD: return up + one.turn[0];
            case YOUNG: return up + 5 * one.grow;
            default: return up / 2;
        }
    }

    private static final class Runner {
        final int[] turn = new int[GROUNDS];
        final int[] figures = new int[FIGURES];
        int strength;
        int mark;
        int habit;
        int grow;
        int ran;
        int kept;

        void begin(int ofStrength) {
            strength = ofStrength;
            mark = ofStrength;
            habit = 0;
            grow = 0;
            ran = 0;
            kept = 0;
            for (int k = 0; k < GROUNDS; k++) {
                turn[k] = 0;
            }
        }

        void become(Runner other) {
            strength = other.strength;
            mark = other.mark;
            habit = other.habit;
            grow = other.grow;
            ran = other.ran;
            kept = other.kept;
            System.arraycopy(other.turn, 0, turn, 0, GROUNDS);
            System.arraycopy(other.figures, 0, figures, 0, FIGURES);
        }

        int change(int what, int v) {
            int was;
            switch (what) {
                case 0:
                    was = habit;
                    habit = v;
                    return was;
                case 1:
                    was = grow;
                    grow = v;
                    return was;
                case 5:
                    was = mark;
                    mark = v;
                    return was;
                default:
                    return turnTo(what - 2, v);
            }
        }

        private int turnTo(int ground, int v) {
            if (!within(ground, 0, GROUNDS - 1)) {
                return NO;
            }
            int was = turn[ground];
            turn[ground] = v;
            return was;
        }

        /** A race of its own is over: the mark moves first, for the rule knows nothing of growing. */
        void finish(int figure, Rule by) {
            System.arraycopy(figures, 0, figures, 1, FIGURES - 1);
            figures[0] = figure;
            kept = Math.min(FIGURES, kept + 1);
            ran++;
            int last = by.lastOf(kept);
            int best = by.bestOf(last);
            mark = by.moved(mark, bestSum(last, best, by.ceiling(mark)), best);
            strength = clamp(strength + grow, 0, TOP);
        }

        private int bestSum(int last, int best, int ceiling) {
            int sum = 0;
            for (int k = 0; k < last; k++) {
                if (betterThan(k, last) < best) {
                    sum += Math.min(figures[k], ceiling);
                }
            }
            return sum;
        }

        /** Of equal figures the later one counts as better, so that no two share a place. */
        private int betterThan(int k, int last) {
            int better = 0;
            for (int other = 0; other < last; other++) {
                if (figures[other] > figures[k] || figures[other] == figures[k] && other < k) {
                    better++;
                }
            }
            return better;
        }
    }

    /** Runners with all that is theirs, the lot and the races: what an image keeps. */
    private static final class Yard {
        final Runner[] runners = new Runner[RUNNERS];
        int size;
        int lot = 1;
        int races;
        boolean kept;

        Yard() {
            for (int k = 0; k < RUNNERS; k++) {
                runners[k] = new Runner();
            }
        }

        void become(Yard other) {
            size = other.size;
            lot = other.lot;
            races = other.races;
            for (int k = 0; k < size; k++) {
                runners[k].become(other.runners[k]);
            }
        }

        int nextLot() {
            lot = lot * 1103515245 + 12345;
            return lot;
        }
    }

    private static final class Rule {
        static final int NUMBERS = 6;
        static final int K = 0, N = 1, A = 2, B = 3, C = 4, T = 5;
        private static final int[] AT_FIRST = {1, 1, 1, 1, 200, 200};

        final int[] numbers = new int[NUMBERS];

        Rule() {
            forget();
        }

        void forget() {
            System.arraycopy(AT_FIRST, 0, numbers, 0, NUMBERS);
        }

        void become(Rule other) {
            System.arraycopy(other.numbers, 0, numbers, 0, NUMBERS);
        }

        int lastOf(int kept) {
            return Math.min(numbers[N], kept);
        }

        int bestOf(int last) {
            return Math.min(numbers[K], last);
        }

        /** What a run too good is counted as. */
        int ceiling(int mark) {
            return mark + numbers[T];
        }

        int moved(int mark, int sum, int howMany) {
            if (howMany < 1 || numbers[B] < 1) {
                return mark;
            }
            int aim = Math.floorDiv(sum, howMany);
            int step = numbers[A] * (aim - mark) / numbers[B];
            return clamp(mark + clamp(step, -numbers[C], numbers[C]), 0, TOP);
        }
    }

    /** The text, and the reading of it, one token ahead. */
    private static final class RuleText {
        static final int BYTES = 200;
        private static final int FAULT = -10;
        private static final int ITEMS = 4;
        private static final int END = 0, WRONG = 1, NUMBER = 2, SLASH = 3, STOP = 4;
        private static final int BEST = 5, OF = 6, MOVE = 7, CAP = 8, OVER = 9;
        private static final int WORD_BEST = 'b' << 24 | 'e' << 16 | 's' << 8 | 't';
        private static final int WORD_OF = 'o' << 8 | 'f';
        private static final int WORD_MOVE = 'm' << 24 | 'o' << 16 | 'v' << 8 | 'e';
        private static final int WORD_CAP = 'c' << 16 | 'a' << 8 | 'p';
        private static final int WORD_OVER = 'o' << 24 | 'v' << 16 | 'e' << 8 | 'r';

        private final int[] bytes = new int[BYTES];
        int length;
        private int at;
        private int start;
        private int token;
        private int number;
        private int told;

        void append(int one) {
            if (length < BYTES) {
                bytes[length] = one;
                length++;
            }
        }

        /** How many items; FAULT less the place of the token that can't stand where it does. */
        int readInto(Rule draft) {
            draft.forget();
            at = 0;
            told = 0;
            next();
            int items = 0;
            while (items <= ITEMS && token != END) {
                if (!item(draft.numbers)) {
                    return FAULT - start;
                }
                items++;
            }
            return items;
        }

        private boolean item(int[] into) {
            int kind = token;
            if (kind < BEST || kind == OF || isOf(told, kind)) {
                return false;
            }
            told |= 1 << kind;
            next();
            boolean fits;
            switch (kind) {
                case BEST:
                    fits = numeral(into, Rule.K, 1, 12) && sign(OF) && numeral(into, Rule.N, into[Rule.K], 12);
                    break;
                case MOVE:
                    fits = numeral(into, Rule.A, 1, 20) && sign(SLASH) && numeral(into, Rule.B, into[Rule.A], 20);
                    break;
                case CAP:
                    fits = numeral(into, Rule.C, 0, TOP);
                    break;
                default:
                    fits = numeral(into, Rule.T, 0, TOP);
                    break;
            }
            return fits && sign(STOP);
        }

        private boolean sign(int wanted) {
            if (token != wanted) {
                return false;
            }
            next();
            return true;
        }

        private boolean numeral(int[] into, int which, int least, int most) {
            if (token != NUMBER || !within(number, least, most)) {
                return false;
            }
            into[which] = number;
            next();
            return true;
        }

        private void next() {
            while (at < length && bytes[at] == ' ') {
                at++;
            }
            start = at;
            if (at >= length) {
                token = END;
            } else if (isLetter(bytes[at])) {
                token = wordToken();
            } else if (isDigit(bytes[at])) {
                token = numberToken();
            } else {
                token = bytes[at] == '/' ? SLASH : bytes[at] == ';' ? STOP : WRONG;
                at++;
            }
        }

        private int wordToken() {
            int letters = 0;
            while (at < length && isLetter(bytes[at])) {
                letters = letters << 8 | bytes[at];
                at++;
            }
            // a longer word has lost its first letters and might look like one that is known
            if (at - start > 4) {
                return WRONG;
            }
            switch (letters) {
                case WORD_BEST: return BEST;
                case WORD_OF: return OF;
                case WORD_MOVE: return MOVE;
                case WORD_CAP: return CAP;
                case WORD_OVER: return OVER;
                default: return WRONG;
            }
        }

        private int numberToken() {
            number = 0;
            while (at < length && isDigit(bytes[at])) {
                number = Math.min(1000, 10 * number + bytes[at] - '0');
                at++;
            }
            boolean zeroAhead = bytes[start] == '0' && at - start > 1;
            return zeroAhead || number > 999 ? WRONG : NUMBER;
        }

        private static boolean isLetter(int one) {
            return one >= 'a' && one <= 'z';
        }

        private static boolean isDigit(int one) {
            return one >= '0' && one <= '9';
        }
    }

    /** Those who would race now, by their numbers, and who of them is first by all lucks. */
    private static final class Field {
        static final long FAR = 1L << 60;
        static final int EVEN_MOST = 3;
        private static final int WEIGHT_MOST = 20;

        private final int[] bare = new int[RUNNERS];
        private final int[] levels = new int[RUNNERS];
        final int[] evenWeights = new int[EVEN_MOST];
        long nearest;
        private int size;
        private int spread;

        void begin(int withSpread) {
            size = 0;
            spread = withSpread;
        }

        void add(int bareLevel, int weight) {
            if (size < RUNNERS) {
                bare[size] = bareLevel;
                levels[size] = bareLevel - weight;
                size++;
            }
        }

        long allRows() {
            long rows = 1;
            for (int k = 0; k < size; k++) {
                rows *= 2 * spread + 1;
            }
            return rows;
        }

        /** From the best luck down: where no row is left, none is left below either. */
        long rowsFirst(int who) {
            long rows = 0;
            for (int luck = spread; luck >= -spread; luck--) {
                long ways = waysOfOthers(who, levels[who] + luck);
                if (ways == 0) {
                    return rows;
                }
                rows += ways;
            }
            return rows;
        }

        private long waysOfOthers(int who, int shown) {
            long ways = 1;
            for (int other = 0; other < size && ways > 0; other++) {
                if (other != who) {
                    int ties = other > who ? 1 : 0;
                    ways *= clamp(shown - levels[other] + spread + ties, 0, 2 * spread + 1);
                }
            }
            return ways;
        }

        /** How far from even; at enough or above it may stop short, for then it serves no more. */
        long distance(long enough) {
            long all = allRows();
            long left = all;
            long sum = 0;
            for (int k = 0; k < size && sum < enough; k++) {
                long rows = k == size - 1 ? left : rowsFirst(k);
                left -= rows;
                sum += Math.abs(size * rows - all);
            }
            return sum;
        }

        void seekEven() {
            nearest = FAR;
            for (int first = 0; first <= WEIGHT_MOST; first++) {
                for (int second = 0; second <= WEIGHT_MOST; second++) {
                    int thirds = thirdWeights(first == 0 || second == 0);
                    for (int third = 0; third < thirds; third++) {
                        tryWeights(first, second, third);
                    }
                }
            }
        }

        /** How many weights a third may have, so that the least of all is 0; of two, 0 stands for it. */
        private int thirdWeights(boolean hasZero) {
            if (size > 2) {
                return hasZero ? WEIGHT_MOST + 1 : 1;
            }
            return hasZero ? 1 : 0;
        }

        private void tryWeights(int first, int second, int third) {
            levels[0] = bare[0] - first;
            levels[1] = bare[1] - second;
            levels[2] = bare[2] - third;
            long far = distance(nearest);
            if (far < nearest) {
                nearest = far;
                evenWeights[0] = first;
                evenWeights[1] = second;
                evenWeights[2] = third;
            }
        }
    }

    /** One runner without luck in its figures: a race is tried or pulled. */
    private static final class Stable {
        static final int RACES = 10;
        private static final int SETS = 1 << RACES;

        final int[] bars = new int[RACES];
        final int[] prizes = new int[RACES];
        private boolean mayPull;
        private int strength;
        private int races;
        private int spread;
        private int pullLoss;
        private Rule by;

        void begin(int ofStrength, int howMany, int withSpread, int withPull, Rule withRule) {
            strength = ofStrength;
            races = Math.min(howMany, RACES);
            spread = withSpread;
            pullLoss = withPull;
            by = withRule;
        }

        int bestScore(boolean withPulls) {
            mayPull = withPulls;
            return bestFrom(0, strength, 0, 0);
        }

        /** The best score of all that can still be chosen: more won first, then the lesser set. */
        private int bestFrom(int race, int mark, int pulls, int won) {
            if (race >= races) {
                return won * SETS + SETS - 1 - pulls;
            }
            int score = bestFrom(race + 1, markAfter(race, mark, pulls), pulls, won + wonAt(race, mark));
            if (mayPull) {
                int more = pulls | 1 << race;
                score = Math.max(score, bestFrom(race + 1, markAfter(race, mark, more), more, won));
            }
            return score;
        }

        static int wonOf(int score) {
            return score / SETS;
        }

        static int pullsOf(int score) {
            return SETS - 1 - score % SETS;
        }

        private int wonAt(int race, int mark) {
            int weight = Math.max(0, mark - bars[race]);
            int leastLuck = bars[race] + weight - strength;
            return prizes[race] * clamp(spread - leastLuck + 1, 0, 2 * spread + 1);
        }

        /** Only two figures are possible, so the best of the last are told by how many were tried. */
        private int markAfter(int race, int mark, int pulls) {
            if (by == null) {
                return mark;
            }
            int last = by.lastOf(race + 1);
            int best = by.bestOf(last);
            int tried = last - Integer.bitCount(pulls >> race + 1 - last);
            int high = Math.min(best, tried);
            int ceiling = by.ceiling(mark);
            int sum = high * Math.min(strength, ceiling) + (best - high) * Math.min(strength - pullLoss, ceiling);
            return by.moved(mark, sum, best);
        }
    }

    private static final class Hulls {
        static final int NUMBERS = 6;
        private static final int LENGTH_MOST = 12;

        final int[] numbers = {1, 0, 0, 0, 0, 1};
        int a;
        int b;
        int c;
        int speed;

        /** Whether any hull is within the limit; the fastest of them is held then. */
        boolean seek(int limit) {
            boolean any = false;
            for (int x = 1; x <= LENGTH_MOST; x++) {
                for (int y = 1; y <= LENGTH_MOST; y++) {
                    for (int z = 1; z <= LENGTH_MOST; z++) {
                        int fast = sum(3, x, y, z);
                        if (sum(0, x, y, z) <= limit && (!any || fast > speed)) {
                            any = true;
                            hold(x, y, z, fast);
                        }
                    }
                }
            }
            return any;
        }

        private int sum(int from, int x, int y, int z) {
            return numbers[from] * x + numbers[from + 1] * y + numbers[from + 2] * z;
        }

        private void hold(int x, int y, int z, int fast) {
            a = x;
            b = y;
            c = z;
            speed = fast;
        }
    }
}
