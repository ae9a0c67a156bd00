import java.lang.reflect.Field;
import java.lang.reflect.Modifier;
import java.nio.charset.StandardCharsets;
import java.nio.file.Files;
import java.nio.file.Path;
import java.util.ArrayList;
import java.util.HashMap;
import java.util.List;
import java.util.Map;
import java.util.Set;
import java.util.TreeSet;
import java.util.regex.Matcher;
import java.util.regex.Pattern;

/** Rules of LANGUAGE.md that can be seen by words of the source: a guard, not the whole of them. */
public final class LanguageTest {
    private static final String[] FORBIDDEN = {
        "\\bpackage\\b", "\\bthrow\\b", "\\bthrows\\b", "\\btry\\b", "\\bcatch\\b", "\\bsynchronized\\b",
        "\\bassert\\b", "->", "::", "\\bprotected\\b", "\\bObject\\b", "\\bvar\\b", "Exact\\b",
        "\\bhashCode\\b", "\\btoString\\b", "\\bequals\\b", "MIN_VALUE", "MAX_VALUE", "\\bjava\\.(?!util\\.Arrays;)",
        "System\\.(?!arraycopy)", "Arrays\\.(?!fill|copyOf|copyOfRange|;)", "Math\\.(?!max|min|abs|floorDiv|floorMod)",
        "static\\s*\\{", "while\\s*\\(true", "for\\s*\\(;;",
    };

    private static final Pattern METHOD =
        Pattern.compile("( {4}| {8})((?:public |private |static )*)(\\w[\\w\\[\\]]* )?(\\w+)\\(([^)]*)\\) \\{");
    private static final Pattern CALLED = Pattern.compile("\\b(\\w+)\\(");
    private static final Set<String> CLASSES = Set.of("NumberedWaves", "Text", "Pairs", "Waves", "Sheet");

    private final Due due = new Due();
    /** Bodies by name; those of one name in two classes are taken together. */
    private final Map<String, StringBuilder> bodies = new HashMap<>();
    private final Map<String, Integer> depths = new HashMap<>();

    private LanguageTest() {
    }

    private static String withoutComments(String source) {
        return source.replaceAll("(?s)/\\*.*?\\*/", "").replaceAll("//[^\\n]*", "");
    }

    public static void main(String[] args) throws Exception {
        Path file = Path.of("src/main/java/NumberedWaves.java");
        String source = Files.readString(file, StandardCharsets.UTF_8);
        String code = withoutComments(source).replace("import java.util.Arrays;", "");
        LanguageTest test = new LanguageTest();
        test.words(source, code);
        test.classesInside(code);
        test.methods(code);
        test.depths();
        test.fields(NumberedWaves.class);
        for (Class<?> inner : NumberedWaves.class.getDeclaredClasses()) {
            test.fields(inner);
        }
        test.due.end();
    }

    private void words(String source, String code) {
        for (int i = 0; i < source.length(); i++) {
            due.isTrue("a sign beyond 127 at " + i, source.charAt(i) < 128);
        }
        for (String forbidden : FORBIDDEN) {
            Matcher m = Pattern.compile(forbidden).matcher(code);
            due.isTrue("the source has " + forbidden, !m.find());
        }
    }

    private void classesInside(String code) {
        Matcher inner = Pattern.compile("(?m)^ {4}(.*\\bclass\\b.*)$").matcher(code);
        int classes = 1;
        while (inner.find()) {
            classes++;
            due.isTrue(inner.group(1), inner.group(1).startsWith("private static final class "));
        }
        due.is("classes", classes, CLASSES.size());
        due.isTrue("rule 11: at most twelve classes", classes <= 12);
    }

    /** Rules 11 and 12: short methods, few parameters, and nothing made but by constructors. */
    private void methods(String code) {
        String[] lines = code.split("\n");
        int many = 0;
        for (int i = 0; i < lines.length; i++) {
            Matcher m = METHOD.matcher(lines[i]);
            if (!m.matches()) {
                continue;
            }
            String name = m.group(4);
            StringBuilder body = bodies.computeIfAbsent(name, n -> new StringBuilder());
            int end = i + 1;
            while (!lines[end].equals(m.group(1) + "}")) {
                body.append(lines[end]).append('\n');
                end++;
            }
            due.isTrue("rule 11: " + name + " has " + (end - i - 1) + " lines", end - i - 1 <= 60);
            due.isTrue("rule 11: parameters of " + name, m.group(5).split(",").length <= 7);
            boolean maker = CLASSES.contains(name);
            many += maker ? 0 : 1;
            due.isTrue("rule 12: " + name + " makes something", maker || !body.toString().matches("(?s).*\\bnew\\b.*"));
            due.isTrue("a method without a kind of answer: " + name, maker == (m.group(3) == null));
        }
        int declared = NumberedWaves.class.getDeclaredMethods().length;
        for (Class<?> inner : NumberedWaves.class.getDeclaredClasses()) {
            declared += inner.getDeclaredMethods().length;
        }
        due.is("methods found in the source", many, declared);
    }

    /** Rules 8 and 11: no recursion, and no chain of calls is longer than eight. */
    private void depths() {
        for (String name : new TreeSet<>(bodies.keySet())) {
            due.isTrue("rule 11: the chain of calls from " + name + " is " + depthOf(name, new ArrayList<>()) + " long",
                depthOf(name, new ArrayList<>()) <= 8);
        }
    }

    private int depthOf(String name, List<String> open) {
        if (depths.containsKey(name)) {
            return depths.get(name);
        }
        if (open.contains(name)) {
            due.isTrue("recursion: " + open + " " + name, false);
            return 1;
        }
        open.add(name);
        int deepest = 0;
        Matcher called = CALLED.matcher(bodies.get(name));
        while (called.find()) {
            if (bodies.containsKey(called.group(1))) {
                deepest = Math.max(deepest, depthOf(called.group(1), open));
            }
        }
        open.remove(open.size() - 1);
        depths.put(name, deepest + 1);
        return deepest + 1;
    }

    /** Rules 3, 5 and 11: kinds of fields and how many. */
    private void fields(Class<?> c) {
        int own = 0;
        for (Field f : c.getDeclaredFields()) {
            Class<?> kind = f.getType();
            boolean row = kind.isArray();
            Class<?> item = row ? kind.getComponentType() : kind;
            boolean ours = CLASSES.contains(item.getSimpleName());
            if (Modifier.isStatic(f.getModifiers())) {
                due.isTrue("rule 5: " + f, Modifier.isFinal(f.getModifiers()) && item.isPrimitive());
            } else {
                own++;
                due.isTrue("rule 3: " + f, item.isPrimitive() || ours);
            }
        }
        due.isTrue("rule 11: " + c + " has " + own + " fields", own <= 20);
    }
}
