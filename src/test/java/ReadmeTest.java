import java.io.IOException;
import java.lang.reflect.Method;
import java.lang.reflect.Modifier;
import java.nio.file.Files;
import java.nio.file.Path;
import java.util.Map;
import java.util.Set;
import java.util.TreeMap;
import java.util.TreeSet;
import java.util.regex.Matcher;
import java.util.regex.Pattern;

/** README.md's example answers what it says, and its table has every call with what a refused one answers. */
public final class ReadmeTest {
    private static final Pattern EXAMPLE = Pattern.compile("^x\\.(\\w+)\\((.*?)\\); +// (-?\\d+):", Pattern.MULTILINE);
    private static final Pattern ROW = Pattern.compile("^\\| `(\\w+)\\((.*?)\\)` \\|.*\\| (.*) \\|$", Pattern.MULTILINE);
    private static final Pattern CONSTANT = Pattern.compile("`(BAD|STATE|FULL|NO)`");

    public static void main(String[] args) throws IOException, ReflectiveOperationException {
        String page = Files.readString(Path.of(args.length > 0 ? args[0] : ".").resolve("README.md"));
        example(page);
        table(page);
        Due.end("ReadmeTest");
    }

    private static Map<String, Method> face() {
        Map<String, Method> face = new TreeMap<>();
        for (Method method : EvenStride.class.getDeclaredMethods()) {
            if (Modifier.isPublic(method.getModifiers())) {
                face.put(method.getName(), method);
            }
        }
        return face;
    }

    private static void example(String page) throws ReflectiveOperationException {
        EvenStride x = new EvenStride();
        int lines = 0;
        Matcher line = EXAMPLE.matcher(page);
        while (line.find()) {
            Method method = face().get(line.group(1));
            Due.holds("a call of the face: " + line.group(), method != null);
            if (method != null) {
                Number answer = (Number) method.invoke(x, numbers(method, line.group(2)));
                Due.due(line.group(), answer.longValue(), Long.parseLong(line.group(3)));
                lines++;
            }
        }
        Due.due("calls of the example", lines, page.split("\nx\\.", -1).length - 1);
        Due.holds("the example has calls", lines > 0);
    }

    private static Object[] numbers(Method method, String told) {
        String[] words = told.isEmpty() ? new String[0] : told.split(", ");
        Object[] numbers = new Object[words.length];
        for (int k = 0; k < words.length; k++) {
            long number = Long.decode(words[k].replace("L", ""));
            boolean small = method.getParameterTypes()[k] == int.class;
            numbers[k] = small ? (Object) Math.toIntExact(number) : (Object) number;
        }
        return numbers;
    }

    private static void table(String page) {
        Map<String, Method> left = face();
        Map<String, Set<String>> refused = refused();
        Matcher row = ROW.matcher(page);
        while (row.find()) {
            Method method = left.remove(row.group(1));
            Due.holds("one row for a call of the face: " + row.group(1), method != null);
            if (method != null) {
                int numbers = row.group(2).isEmpty() ? 0 : row.group(2).split(", ").length;
                Due.due("numbers of " + row.group(1), numbers, method.getParameterCount());
                Set<String> told = told(row.group(3));
                Set<String> due = refused.getOrDefault(row.group(1), Set.of());
                Due.holds(row.group(1) + " refused: told " + told + ", due is " + due, told.equals(due));
                boolean never = row.group(3).equals("never");
                Due.holds(row.group(1) + " is never refused", never == (due.isEmpty() && !row.group(1).equals("rule")));
            }
        }
        Due.holds("the table lacks " + left.keySet(), left.isEmpty());
    }

    private static Set<String> told(String words) {
        Set<String> told = new TreeSet<>();
        Matcher constant = CONSTANT.matcher(words);
        while (constant.find()) {
            told.add(constant.group(1));
        }
        return told;
    }

    /** By name of a call: what it answers when it is refused, asked for each way to be refused. */
    private static Map<String, Set<String>> refused() {
        EvenStride x = Sample.eight();
        EvenStride y = new EvenStride();
        Map<String, Set<String>> all = new TreeMap<>();
        all.put("runner", names(x.runner(201), x.runner(0)));
        all.put("set", names(x.set(8, 0, 0), x.set(0, 6, 0), x.set(0, 0, 3)));
        all.put("about", names(x.about(8, 0), x.about(0, 6)));
        all.put("figure", names(x.figure(8, 0), x.figure(7, 1)));
        all.put("tune", names(x.tune(3, 0), x.tune(0, 6)));
        all.put("told", names(x.told(6)));
        all.put("race", names(x.race(3, 3), x.race(0, 1), x.race(0, 257)));
        all.put("shown", names(x.shown(8, 0), x.shown(7, 0), x.shown(0, 3)));
        all.put("weight", names(x.weight(8, 3), x.weight(7, 3), x.weight(0, 1)));
        all.put("odds", names(x.odds(3, 3, 0), x.odds(0, 1, 0), x.odds(0, 3, 8)));
        all.put("close", names(x.close(3, 3), x.close(0, 1)));
        all.put("even", names(x.even(3, 3, 0), x.even(0, 1, 0), x.even(0, 15, 0)));
        all.put("good", names(x.good(7, 0, 0), x.good(1, 21, 0), x.good(1, 0, 2)));
        all.put("behind", names(x.behind(201, 0, 0), x.behind(0, 10, 0), x.behind(0, 0, 41)));
        all.put("card", names(x.card(10, 0, 0), x.card(0, 2, 0), x.card(0, 0, 201)));
        all.put("plan", names(x.plan(201, 1, 0), x.plan(0, 11, 0), x.plan(0, 1, 3)));
        all.put("hull", names(x.hull(6, 0), x.hull(0, 10)));
        all.put("beats", names(x.beats(501, 0), x.beats(0, 4), y.beats(0, 0)));
        all.put("reading", names(x.reading(7, 0), x.reading(0, 8)));
        all.put("keep", names(x.keep(2)));
        all.put("back", names(x.back(2), y.back(0)));
        all.put("count", names(x.count(4)));
        Due.typed(y, "?");
        Due.due("rule() of ?", y.rule(), -10);
        all.put("type", names(y.type(0, 9), fullText().type(0, 1)));
        return all;
    }

    private static EvenStride fullText() {
        EvenStride x = new EvenStride();
        for (int k = 0; k < 25; k++) {
            x.type(0, 8);
        }
        return x;
    }

    private static Set<String> names(long... answers) {
        Map<Long, String> names = Map.of((long) EvenStride.BAD, "BAD", (long) EvenStride.STATE, "STATE",
            (long) EvenStride.FULL, "FULL", (long) EvenStride.NO, "NO");
        Set<String> of = new TreeSet<>();
        for (long answer : answers) {
            of.add(names.getOrDefault(answer, "not refused: " + answer));
        }
        return of;
    }
}
