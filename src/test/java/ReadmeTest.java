import java.io.IOException;
import java.lang.reflect.Method;
import java.nio.file.Files;
import java.nio.file.Path;
import java.util.Map;
import java.util.Set;
import java.util.TreeSet;
import java.util.regex.Matcher;
import java.util.regex.Pattern;

/** The calls that README.md shows, in their order on one object: each answers what stands behind it. */
public final class ReadmeTest {
    private static final Check CHECK = new Check();
    private static final Pattern CALL = Pattern.compile("house\\.(\\w+)\\((.*?)\\); +// (-?\\d+|[A-Z]+)\\b.*");
    private static final Map<String, Integer> REFUSALS = Map.of("UNKNOWN", GrammarHouse.UNKNOWN,
        "OUTSIDE", GrammarHouse.OUTSIDE, "STATE", GrammarHouse.STATE, "FULL", GrammarHouse.FULL);

    private ReadmeTest() { }

    public static void main(String[] args) throws IOException, ReflectiveOperationException {
        String readme = Files.readString(Path.of("README.md"));
        GrammarHouse house = new GrammarHouse();
        for (String line : readme.lines().toList()) {
            if (line.startsWith("house.")) {
                Matcher call = CALL.matcher(line);
                CHECK.due("a call and its answer: " + line, call.matches() ? 1 : 0, 1);
                if (call.matches()) {
                    String due = call.group(3);
                    CHECK.due(line, answer(house, call.group(1), call.group(2)),
                        REFUSALS.containsKey(due) ? REFUSALS.get(due) : Long.parseLong(due));
                }
            }
        }
        everyClassAndTest(readme);
        CHECK.close();
    }

    private static long answer(GrammarHouse house, String name, String numbers) throws ReflectiveOperationException {
        String[] told = numbers.isEmpty() ? new String[0] : numbers.split(", ");
        for (Method method : GrammarHouse.class.getMethods()) {
            if (method.getName().equals(name) && method.getParameterCount() == told.length) {
                Object[] given = new Object[told.length];
                for (int k = 0; k < told.length; k++) {
                    boolean wide = method.getParameterTypes()[k] == long.class;
                    given[k] = wide ? (Object) Long.valueOf(told[k]) : (Object) Integer.valueOf(told[k]);
                }
                return ((Number) method.invoke(house, given)).longValue();
            }
        }
        CHECK.due("there is no " + name, 0, 1);
        return 0;
    }

    private static void everyClassAndTest(String readme) throws IOException {
        Set<String> all = new TreeSet<>();
        for (Class<?> one : GrammarHouse.class.getDeclaredClasses()) {
            all.add(one.getSimpleName());
        }
        try (var files = Files.list(Path.of("src/test/java"))) {
            files.map(f -> f.getFileName().toString()).filter(f -> f.endsWith("Test.java"))
                .forEach(f -> all.add(f.replace(".java", "")));
        }
        for (String name : all) {
            CHECK.due("README.md tells of " + name, readme.contains("`" + name + "`") ? 1 : 0, 1);
        }
    }
}
