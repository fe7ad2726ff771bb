import java.io.IOException;
import java.lang.reflect.Constructor;
import java.lang.reflect.Field;
import java.lang.reflect.Method;
import java.lang.reflect.Modifier;
import java.nio.charset.StandardCharsets;
import java.nio.file.Files;
import java.nio.file.Path;
import java.util.Arrays;
import java.util.Set;
import java.util.TreeSet;
import java.util.regex.Matcher;
import java.util.regex.Pattern;

/** The public face as the document has it, and what of LANGUAGE.md can be seen from outside. */
public final class FaceTest {
    private static final String[] FACE = {
        "int runner(int)", "int set(int,int,int)", "int about(int,int)", "int figure(int,int)", "int tune(int,int)",
        "int lot(int)", "int type(long,int)", "int clear()", "int rule()", "int told(int)", "int race(int,int)",
        "int shown(int,int)", "int weight(int,int)", "long odds(int,int,int)", "long close(int,int)",
        "long even(int,int,int)", "int good(int,int,int)", "int behind(int,int,int)", "int card(int,int,int)",
        "int plan(int,int,int)", "int hull(int,int)", "int beats(int,int)", "int reading(int,int)", "int keep(int)",
        "int back(int)", "int count(int)", "long trace()",
    };

    public static void main(String[] args) throws IOException {
        methods();
        constants();
        constructors();
        classesInside();
        source(Path.of(args.length > 0 ? args[0] : "."));
        Due.end("FaceTest");
    }

    private static void methods() {
        Set<String> left = new TreeSet<>(Arrays.asList(FACE));
        Set<String> names = new TreeSet<>();
        for (Method method : EvenStride.class.getDeclaredMethods()) {
            if (Modifier.isPublic(method.getModifiers())) {
                Due.holds("the face has " + signature(method), left.remove(signature(method)));
                Due.holds("no static " + method, !Modifier.isStatic(method.getModifiers()));
                names.add(method.getName());
            }
        }
        Due.holds("the face lacks " + left, left.isEmpty());
        for (Method method : EvenStride.class.getDeclaredMethods()) {
            if (!Modifier.isPublic(method.getModifiers())) {
                Due.holds("private: " + method, Modifier.isPrivate(method.getModifiers()));
                Due.holds("a name of its own: " + method, !names.contains(method.getName()));
            }
        }
    }

    private static String signature(Method method) {
        StringBuilder text = new StringBuilder(method.getReturnType() + " " + method.getName() + "(");
        for (Class<?> type : method.getParameterTypes()) {
            text.append(text.charAt(text.length() - 1) == '(' ? "" : ",").append(type);
        }
        return text + ")";
    }

    private static void constants() {
        Due.due("BAD", EvenStride.BAD, -1);
        Due.due("STATE", EvenStride.STATE, -2);
        Due.due("FULL", EvenStride.FULL, -3);
        Due.due("NONE", EvenStride.NONE, -9);
        Due.due("NO", EvenStride.NO, -1000000);
        Set<String> known = Set.of("BAD", "STATE", "FULL", "NONE", "NO");
        for (Field field : EvenStride.class.getDeclaredFields()) {
            int how = field.getModifiers();
            boolean open = known.contains(field.getName());
            Due.holds("fits the face: " + field, open ? Modifier.isPublic(how) : Modifier.isPrivate(how));
            Due.holds("static is final: " + field, !Modifier.isStatic(how) || Modifier.isFinal(how));
        }
    }

    private static void constructors() {
        Constructor<?>[] all = EvenStride.class.getDeclaredConstructors();
        Due.due("constructors", all.length, 1);
        Due.due("its parameters", all[0].getParameterCount(), 0);
        Due.holds("public", Modifier.isPublic(all[0].getModifiers()));
        Due.holds("a final class", Modifier.isFinal(EvenStride.class.getModifiers()));
    }

    private static void classesInside() {
        Class<?>[] inside = EvenStride.class.getDeclaredClasses();
        Due.holds("twelve classes at most", inside.length + 1 <= 12);
        for (Class<?> one : inside) {
            int how = one.getModifiers();
            Due.holds("static: " + one, Modifier.isStatic(how));
            Due.holds("not of the face: " + one, !Modifier.isPublic(how) && !Modifier.isProtected(how));
            int fields = 0;
            for (Field field : one.getDeclaredFields()) {
                boolean isStatic = Modifier.isStatic(field.getModifiers());
                Due.holds("static is final: " + field, !isStatic || Modifier.isFinal(field.getModifiers()));
                fields += isStatic ? 0 : 1;
            }
            Due.holds("twenty fields at most: " + one, fields <= 20);
            for (Method method : one.getDeclaredMethods()) {
                Due.holds("seven parameters at most: " + method, method.getParameterCount() <= 7);
            }
        }
    }

    private static void source(Path root) throws IOException {
        String text = Files.readString(root.resolve("src/main/java/EvenStride.java"), StandardCharsets.ISO_8859_1);
        for (int k = 0; k < text.length(); k++) {
            if (text.charAt(k) > 126 || text.charAt(k) < 32 && text.charAt(k) != '\n') {
                Due.holds("a plain sign at " + k, false);
            }
        }
        String code = text.replaceAll("(?s)/\\*.*?\\*/", " ").replaceAll("//[^\n]*", " ");
        String[] words = {
            "throw", "throws", "try", "catch", "finally", "synchronized", "assert", "import", "package", "native",
            "volatile", "transient", "double", "float", "Object", "Thread", "Random", "Exact\\w*", "\\w+Exception",
            "protected", "currentTimeMillis", "nanoTime",
        };
        for (String word : words) {
            Due.holds("no " + word, !Pattern.compile("\\b" + word + "\\b").matcher(code).find());
        }
        Due.holds("no lambda", !code.contains("->"));
        Due.holds("no method reference", !code.contains("::"));
        library(code);
        methodLengths(text);
    }

    private static void library(String code) {
        Set<String> known = Set.of("Math.min", "Math.max", "Math.abs", "Math.floorDiv", "Integer.bitCount",
            "System.arraycopy");
        Matcher calls = Pattern.compile("\\b(Math|Integer|Long|System|Arrays|String)\\.(\\w+)").matcher(code);
        while (calls.find()) {
            Due.holds("of the library: " + calls.group(), known.contains(calls.group()));
        }
    }

    private static void methodLengths(String text) {
        int opened = -1;
        String[] lines = text.split("\n");
        for (int k = 0; k < lines.length; k++) {
            String line = lines[k].strip();
            Due.holds("line " + (k + 1) + " is not too long", lines[k].length() <= 120);
            boolean head = line.endsWith(") {") && !line.matches("(if|for|while|switch|else|\\}).*");
            if (head) {
                opened = k;
            } else if (opened >= 0 && line.equals("}")) {
                Due.holds("sixty lines at most, from line " + (opened + 1), k - opened <= 60);
            }
        }
    }
}
