import java.io.IOException;
import java.lang.reflect.Constructor;
import java.lang.reflect.Field;
import java.lang.reflect.Method;
import java.lang.reflect.Modifier;
import java.nio.file.Files;
import java.nio.file.Path;
import java.util.HashSet;
import java.util.Set;
import java.util.TreeSet;
import java.util.regex.Matcher;
import java.util.regex.Pattern;

/** The public face, and what of LANGUAGE.md can be seen from outside; run where src stands. */
public final class FaceTest {
    private static final Check CHECK = new Check();
    private static final Pattern HEAD = Pattern.compile("((?:    ){1,2})(\\w[^=;]*\\)) \\{");
    private static final String[] FACE = {
        "int type(int,int,int,int,int)", "int wipe()", "int sign(int)", "int read()", "int fault(int)", "int sum(int)",
        "int name(int,int)", "int nameSign(int,int)", "int rule(int,int)", "int part(int,int)", "int first(int)",
        "int follow(int)", "int table(int,int)", "int put(int)", "int back(int)", "int made(int)", "int letter(int)",
        "int accepts(int)", "int next(int)", "int items(int)", "int isItem(int,int,int,int)", "int makes(int,int,int)",
        "int end(int)", "int repair()", "long trees(int,int,int)", "int pick(long)", "int step(int)", "int deep()",
        "int proper(int)", "int properly(int)", "long digest()",
    };

    private FaceTest() { }

    public static void main(String[] args) throws IOException {
        methods();
        membersAndClasses();
        source();
        CHECK.close();
    }

    private static Set<String> names() {
        Set<String> names = new HashSet<>();
        for (String method : FACE) {
            names.add(method.substring(method.indexOf(' ') + 1, method.indexOf('(')));
        }
        return names;
    }

    private static void methods() {
        Set<String> want = new TreeSet<>(Set.of(FACE));
        Set<String> found = new TreeSet<>();
        for (Method method : GrammarHouse.class.getDeclaredMethods()) {
            if (Modifier.isPublic(method.getModifiers())) {
                StringBuilder face = new StringBuilder();
                for (Class<?> type : method.getParameterTypes()) {
                    face.append(face.length() == 0 ? "" : ",").append(type.getName());
                }
                found.add(method.getReturnType().getName() + " " + method.getName() + "(" + face + ")");
            } else {
                CHECK.due("private " + method.getName(), Modifier.isPrivate(method.getModifiers()) ? 1 : 0, 1);
                CHECK.due("no public name: " + method.getName(), names().contains(method.getName()) ? 1 : 0, 0);
            }
        }
        CHECK.due("the face " + found, found.equals(want) ? 1 : 0, 1);
    }

    private static void membersAndClasses() {
        int constants = 0;
        for (Field field : GrammarHouse.class.getDeclaredFields()) {
            int is = field.getModifiers();
            constants += Modifier.isPublic(is) ? 1 : 0;
            CHECK.due("field " + field.getName(), Modifier.isPublic(is) || Modifier.isPrivate(is) ? 1 : 0, 1);
            CHECK.due("static and not final " + field.getName(), Modifier.isStatic(is) && !Modifier.isFinal(is) ? 1 : 0, 0);
        }
        CHECK.due("constants", constants, 5);
        Constructor<?>[] made = GrammarHouse.class.getDeclaredConstructors();
        CHECK.due("constructors", made.length, 1);
        CHECK.due("a public one", Modifier.isPublic(made[0].getModifiers()) ? 1 : 0, 1);
        CHECK.due("final", Modifier.isFinal(GrammarHouse.class.getModifiers()) ? 1 : 0, 1);
        Class<?>[] inside = GrammarHouse.class.getDeclaredClasses();
        CHECK.due("classes", inside.length <= 11 ? 1 : 0, 1);
        for (Class<?> one : inside) {
            CHECK.due("static " + one, Modifier.isStatic(one.getModifiers()) ? 1 : 0, 1);
            int fields = 0;
            for (Field field : one.getDeclaredFields()) {
                boolean fixed = Modifier.isStatic(field.getModifiers());
                fields += fixed ? 0 : 1;
                CHECK.due("static and not final " + field, fixed && !Modifier.isFinal(field.getModifiers()) ? 1 : 0, 0);
            }
            CHECK.due("fields of " + one + ": " + fields, fields <= 20 ? 1 : 0, 1);
            for (Method method : one.getDeclaredMethods()) {
                CHECK.due("parameters of " + method, method.getParameterCount() <= 7 ? 1 : 0, 1);
                CHECK.due("no public name: " + method, names().contains(method.getName()) ? 1 : 0, 0);
            }
        }
    }

    private static void source() throws IOException {
        String source = Files.readString(Path.of("src/main/java/GrammarHouse.java"));
        String code = source.replaceAll("(?s)/\\*.*?\\*/", "").replaceAll("//[^\n]*", "");
        for (String word : new String[] {"throw", "throws", "try", "catch", "synchronized", "assert", "package", "double",
            "float", "System\\.out", "currentTimeMillis", "nanoTime", "Random", "Thread", "String", "instanceof"}) {
            CHECK.due("source has " + word, Pattern.compile("\\b" + word + "\\b").matcher(code).find() ? 1 : 0, 0);
        }
        CHECK.due("source has a lambda", code.contains("->") || code.contains("::") ? 1 : 0, 0);
        methodLengths(code);
        CHECK.due("one import", code.split("\\bimport\\b").length - 1, 1);
        CHECK.due("of Arrays", code.contains("import java.util.Arrays;") ? 1 : 0, 1);
    }

    /** A method begins with a line that ends with ") {" four or eight blanks in, and ends with a brace as far in. */
    private static void methodLengths(String code) {
        String[] lines = code.split("\n");
        int methods = 0;
        for (int from = 0; from < lines.length; from++) {
            Matcher head = HEAD.matcher(lines[from]);
            if (head.matches()) {
                int to = from;
                while (!lines[to].equals(head.group(1) + "}")) {
                    to++;
                }
                methods++;
                CHECK.due("lines of " + head.group(2) + ": " + (to - from + 1), to - from < 60 ? 1 : 0, 1);
            }
        }
        CHECK.due("methods are seen", methods >= FACE.length ? 1 : 0, 1);
    }
}
