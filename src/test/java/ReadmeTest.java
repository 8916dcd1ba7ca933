import java.lang.reflect.Method;
import java.nio.file.Files;
import java.nio.file.Path;
import java.util.ArrayList;
import java.util.HashMap;
import java.util.List;
import java.util.Map;
import java.util.Set;
import java.util.TreeSet;
import java.util.regex.Matcher;
import java.util.regex.Pattern;
import java.util.stream.Stream;

/** What README.md shows is what the class answers, and what it says of the tests is what there is. */
public final class ReadmeTest {
    private static final String PAGE = "README.md";
    private static final String FRESH = "MovingPlaces x = new MovingPlaces();";
    private static final Pattern BLOCK = Pattern.compile("(?ms)^```java\n(.*?)^```$");
    private static final Pattern LINE =
        Pattern.compile("(?:int (\\w+) = )?x\\.(\\w+)\\((.*?)\\); *// (-?\\d+|[A-Z]+)(?:: .+)?");

    private static int passed = 0;
    private static int failed = 0;

    public static void main(String[] args) throws Exception {
        String page = Files.readString(Path.of(PAGE));
        Set<String> shown = new TreeSet<>();
        Matcher block = BLOCK.matcher(page);
        while (block.find()) {
            runBlock(block.group(1), shown);
        }
        due("the calls that are shown", shown, callsOfTheFace());
        due("the tests that are named", testsNamed(page), testsThatAre());
        due(".ci/run is named, and can be run",
            page.contains("    .ci/run\n") && Files.isExecutable(Path.of(".ci/run")), true);
        System.out.println(passed + " passed, " + failed + " failed");
        if (failed != 0) {
            System.exit(1);
        }
    }

    private static void due(String what, Object got, Object want) {
        if (got.equals(want)) {
            passed++;
        } else {
            failed++;
            System.out.println(what + ": " + got + ", due is " + want);
        }
    }

    /** A block starts with a new object; each further line is a call with its answer behind it. */
    private static void runBlock(String block, Set<String> shown) throws Exception {
        String[] lines = block.split("\n");
        due("the block's first line", lines[0], FRESH);
        MovingPlaces x = new MovingPlaces();
        Map<String, Integer> known = new HashMap<>();
        for (int i = 1; i < lines.length; i++) {
            Matcher line = LINE.matcher(lines[i]);
            if (!line.matches()) {
                due("a call with its answer", lines[i], "..x.call(..); // answer");
                continue;
            }
            int got = answer(x, line.group(2), line.group(3), known);
            due(lines[i], got, number(line.group(4)));
            shown.add(line.group(2));
            if (line.group(1) != null) {
                known.put(line.group(1), got);
            }
        }
    }

    private static int answer(MovingPlaces x, String call, String told, Map<String, Integer> known) throws Exception {
        Method method = methodNamed(call);
        Class<?>[] types = method.getParameterTypes();
        String[] words = told.isEmpty() ? new String[0] : told.split(", ");
        List<Object> values = new ArrayList<>();
        for (int i = 0; i < words.length; i++) {
            values.add(valueOf(words[i], types[i], known));
        }
        return (Integer) method.invoke(x, values.toArray());
    }

    private static Object valueOf(String word, Class<?> type, Map<String, Integer> known) {
        if (type == boolean.class) {
            return Boolean.parseBoolean(word);
        }
        if (type == long.class) {
            return Long.parseLong(word.replace("L", ""));
        }
        return known.containsKey(word) ? known.get(word) : (Object) Integer.parseInt(word);
    }

    private static Method methodNamed(String call) {
        for (Method m : MovingPlaces.class.getMethods()) {
            if (m.getName().equals(call)) {
                return m;
            }
        }
        throw new IllegalStateException(PAGE + " shows a call that there is not: " + call);
    }

    /** The number, or the constant of the class by its name. */
    private static int number(String word) throws Exception {
        return Character.isLetter(word.charAt(0))
            ? MovingPlaces.class.getField(word).getInt(null)
            : Integer.parseInt(word);
    }

    private static Set<String> callsOfTheFace() {
        Set<String> calls = new TreeSet<>();
        for (Method m : MovingPlaces.class.getMethods()) {
            if (m.getDeclaringClass() == MovingPlaces.class) {
                calls.add(m.getName());
            }
        }
        return calls;
    }

    private static Set<String> testsNamed(String page) {
        Set<String> names = new TreeSet<>();
        Matcher name = Pattern.compile("(?m)^- `(\\w+Test)` ").matcher(page);
        while (name.find()) {
            names.add(name.group(1));
        }
        return names;
    }

    private static Set<String> testsThatAre() throws Exception {
        Set<String> names = new TreeSet<>();
        try (Stream<Path> files = Files.list(Path.of("src/test/java"))) {
            files.forEach(f -> names.add(f.getFileName().toString().replace(".java", "")));
        }
        return names;
    }
}
