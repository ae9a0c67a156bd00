import java.lang.reflect.Method;
import java.nio.file.Files;
import java.nio.file.Path;
import java.util.ArrayList;
import java.util.List;
import java.util.regex.Matcher;
import java.util.regex.Pattern;

/**
 * What README.md says is so: each call of its blocks of Java is made, in their order, and its table of
 * acts has the acts of ../shared/DOC.md in their order, each with its arguments and refusals.
 */
public final class ReadmeTest {
    private static final String NEW_OBJECT = "NumberedWaves x = new NumberedWaves();";
    private static final Pattern TYPED =
        Pattern.compile("for \\(char b : \"([^\"]*)\"\\.toCharArray\\(\\)\\) x\\.type\\(([01]), b\\);");
    private static final Pattern CALL =
        Pattern.compile("x\\.(\\w+)\\(([^)]*)\\);\\s+// (Integer\\.MIN_VALUE|Long\\.MIN_VALUE \\+ 2|-?\\d+|[A-Z]+)(:.*)?");
    private static final Pattern ACT = Pattern.compile("\\| `(\\w+\\([^`]*\\))` \\| .* \\| ([A-Z; ]*)\\|");
    private static final Pattern PROMISE = Pattern.compile("`(?:int|long) (\\w+\\([^`]*\\))`: (.*)");
    private static final Pattern REFUSAL = Pattern.compile("\\b(BAD|NOT|FULL|NULL|INDEX|CAST|STORE|SIZE)\\b");
    private static final Pattern REFUSAL_ROW = Pattern.compile("\\| `?([A-Z]+)`? \\| (-\\d+) \\| .*");
    private static final String[] REFUSALS = {"BAD -2", "NOT -3", "FULL -4", "NULL -11", "INDEX -12", "CAST -13",
        "STORE -14", "SIZE -15"};

    private final Due due = new Due();
    private NumberedWaves x = null;
    private int calls = 0;

    private ReadmeTest() {
    }

    public static void main(String[] args) throws Exception {
        List<String> readme = Files.readAllLines(Path.of("README.md"));
        ReadmeTest test = new ReadmeTest();
        test.blocksOfJava(readme);
        test.acts(readme, Files.readAllLines(Path.of("../shared/DOC.md")));
        test.refusals(readme);
        test.due.end();
    }

    private void blocksOfJava(List<String> readme) throws Exception {
        boolean inside = false;
        for (String line : readme) {
            if (line.startsWith("```")) {
                inside = line.equals("```java");
            } else if (inside) {
                obey(line);
            }
        }
        due.isTrue("README.md has some 40 calls, not " + calls, calls >= 35);
        due.isTrue("an object has at most 512 calls", calls + 22 <= 512);
    }

    private void obey(String line) throws Exception {
        Matcher typed = TYPED.matcher(line);
        Matcher call = CALL.matcher(line);
        if (line.equals(NEW_OBJECT)) {
            x = new NumberedWaves();
        } else if (typed.matches()) {
            Due.typeAll(x, Integer.parseInt(typed.group(2)), typed.group(1));
        } else if (call.matches()) {
            calls++;
            due.is(line, answerOf(call.group(1), call.group(2)), valueOf(call.group(3)));
        } else {
            due.isTrue("README.md has a line that no one looks at: " + line, false);
        }
    }

    private long answerOf(String name, String args) throws Exception {
        String[] each = args.isEmpty() ? new String[0] : args.split(", ");
        Object[] values = new Object[each.length];
        for (int i = 0; i < each.length; i++) {
            values[i] = each[i].startsWith("'") ? each[i].charAt(1) : Integer.parseInt(each[i]);
            if (values[i] instanceof Character c) {
                values[i] = (int) c;
            }
        }
        for (Method m : NumberedWaves.class.getMethods()) {
            if (m.getName().equals(name) && m.getDeclaringClass() == NumberedWaves.class) {
                return ((Number) m.invoke(x, values)).longValue();
            }
        }
        due.isTrue("README.md calls what is not there: " + name, false);
        return 0;
    }

    private static long valueOf(String told) {
        switch (told) {
            case "NONE": return NumberedWaves.NONE;
            case "BAD": return NumberedWaves.BAD;
            case "NOT": return NumberedWaves.NOT;
            case "FULL": return NumberedWaves.FULL;
            case "Integer.MIN_VALUE": return Integer.MIN_VALUE;
            case "Long.MIN_VALUE + 2": return Long.MIN_VALUE + 2;
            default: return Long.parseLong(told);
        }
    }

    private void acts(List<String> readme, List<String> document) {
        List<String> told = new ArrayList<>();
        for (String line : readme) {
            Matcher act = ACT.matcher(line);
            if (act.matches()) {
                told.add(act.group(1) + ": " + act.group(2).trim());
            }
        }
        List<String> promised = new ArrayList<>();
        for (String line : document) {
            Matcher promise = PROMISE.matcher(line);
            if (promise.matches()) {
                promised.add(promise.group(1).replaceAll("\\b(int|long) ", "") + ": " + refusalsIn(promise.group(2)));
            }
        }
        due.is("acts of the document", promised.size(), 38);
        due.is("acts in README.md", told.size(), promised.size());
        for (int i = 0; i < Math.min(told.size(), promised.size()); i++) {
            due.isTrue("README.md has " + told.get(i) + ", the document " + promised.get(i),
                told.get(i).equals(promised.get(i)));
        }
    }

    private static String refusalsIn(String words) {
        List<String> found = new ArrayList<>();
        Matcher m = REFUSAL.matcher(words);
        while (m.find()) {
            if (!found.contains(m.group())) {
                found.add(m.group());
            }
        }
        return String.join("; ", found);
    }

    private void refusals(List<String> readme) {
        List<String> rows = new ArrayList<>();
        for (String line : readme) {
            Matcher row = REFUSAL_ROW.matcher(line);
            if (row.matches()) {
                rows.add(row.group(1) + " " + row.group(2));
            }
        }
        due.isTrue("README.md has as refusals " + rows, rows.equals(List.of(REFUSALS)));
    }
}
