import java.util.List;
import java.util.regex.Matcher;
import java.util.regex.Pattern;

/** The rule's grammar as patterns: an item that fits as a whole, or the place where it stops fitting. */
final class PlainReader {
    private static final Pattern TOKEN = Pattern.compile("([a-z]+|[0-9]+|[^ ])", Pattern.DOTALL);
    private static final List<String> ITEMS = List.of("best", "move", "cap", "over");
    private final String text;
    private final int[] told;
    private final boolean[] used = new boolean[4];
    private final Matcher tokens;
    private boolean more;

    PlainReader(String text, int[] told) {
        this.text = text;
        this.told = told;
        tokens = TOKEN.matcher(text);
        more = tokens.find();
    }

    int answer() {
        int items = 0;
        while (more) {
            int which = ITEMS.indexOf(tokens.group());
            if (which < 0 || used[which]) {
                return -10 - place();
            }
            used[which] = true;
            more = tokens.find();
            if (!item(which)) {
                return -10 - place();
            }
            items++;
        }
        return items;
    }

    private int place() {
        return more ? tokens.start() : text.length();
    }

    private boolean item(int which) {
        int at = new int[] {0, 2, 4, 5}[which];
        if (which > 1) {
            return number(at, 0, 200) && word(";");
        }
        int most = which == 0 ? 12 : 20;
        return number(at, 1, most) && word(which == 0 ? "of" : "/") && number(at + 1, told[at], most) && word(";");
    }

    private boolean word(String wanted) {
        if (!more || !tokens.group().equals(wanted)) {
            return false;
        }
        more = tokens.find();
        return true;
    }

    private boolean number(int at, int least, int most) {
        if (!more || !tokens.group().matches("0|[1-9][0-9]{0,2}")) {
            return false;
        }
        int value = Integer.parseInt(tokens.group());
        if (value < least || value > most) {
            return false;
        }
        told[at] = value;
        more = tokens.find();
        return true;
    }
}
