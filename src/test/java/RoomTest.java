import java.lang.reflect.Array;
import java.lang.reflect.Field;
import java.lang.reflect.Modifier;
import java.util.ArrayDeque;
import java.util.Collections;
import java.util.IdentityHashMap;
import java.util.Set;

/**
 * What an object keeps, its own fields and elements counted: all calls of a run live in one room, so
 * that rows are made once and used again.
 */
public final class RoomTest {
    private static final Check CHECK = new Check();
    private static final int OBJECTS = 80, ELEMENTS = 7000, ELEMENTS_FOR_CIRCLES = 16000;
    private static final String[] TAPES = {
        "S:S'p'S|'m'?[a-c];", "E:E'p'T|T;T:T'm'F|F;F:'x'|'l'E'r';", "S:'ab;", "S:(('a'|'b')*'c'?)+;",
    };
    private static final String CIRCLES = "A:B C|'a'|;B:C D|'b'|;C:D E|A;D:E F|'c'|;E:F G|B;F:G H|'a'|;G:H A|C;H:A B|;";

    private RoomTest() { }

    public static void main(String[] args) {
        GrammarHouse house = new GrammarHouse();
        Set<Object> made = kept(house);
        CHECK.due("objects and arrays of a new one: " + made.size(), made.size() <= OBJECTS ? 1 : 0, 1);
        CHECK.due("elements of a new one: " + elements(made), elements(made) <= ELEMENTS ? 1 : 0, 1);
        for (String tape : TAPES) {
            callAll(house, tape);
            sameAs(made, kept(house), "behind " + tape);
        }
        callAll(house, CIRCLES);
        Set<Object> counted = kept(house);
        CHECK.due("objects and arrays: " + counted.size(), counted.size() <= OBJECTS ? 1 : 0, 1);
        CHECK.due("elements: " + elements(counted), elements(counted) <= ELEMENTS_FOR_CIRCLES ? 1 : 0, 1);
        callAll(house, CIRCLES);
        sameAs(counted, kept(house), "behind circles once more");
        CHECK.close();
    }

    private static void callAll(GrammarHouse house, String tape) {
        Check.read(house, tape);
        for (int c = 0; c < 8; c++) {
            house.put(c % 3);
            house.repair();
            house.pick(house.trees(0, 0, c + 1) / 2);
            house.digest();
        }
        for (int seed = 0; seed < 60000; seed += 6000) {
            house.made(seed);
            house.pick(0);
            house.digest();
        }
    }

    private static void sameAs(Set<Object> before, Set<Object> after, String when) {
        CHECK.due("objects and arrays " + when, after.size(), before.size());
        CHECK.due("they are the same " + when, after.containsAll(before) ? 1 : 0, 1);
    }

    /** All objects and arrays that an object leads to, and itself. */
    private static Set<Object> kept(Object from) {
        Set<Object> found = Collections.newSetFromMap(new IdentityHashMap<>());
        ArrayDeque<Object> open = new ArrayDeque<>();
        found.add(from);
        open.add(from);
        while (!open.isEmpty()) {
            Object one = open.remove();
            if (one.getClass().isArray()) {
                CHECK.due("an array of numbers", one.getClass().getComponentType().isPrimitive() ? 1 : 0, 1);
                continue;
            }
            for (Field field : one.getClass().getDeclaredFields()) {
                if (!Modifier.isStatic(field.getModifiers()) && !field.getType().isPrimitive()) {
                    Object next = valueOf(field, one);
                    if (next != null && found.add(next)) {
                        open.add(next);
                    }
                }
            }
        }
        return found;
    }

    private static Object valueOf(Field field, Object of) {
        field.setAccessible(true);
        try {
            return field.get(of);
        } catch (IllegalAccessException closed) {
            throw new IllegalStateException(closed);
        }
    }

    private static int elements(Set<Object> all) {
        int count = 0;
        for (Object one : all) {
            count += one.getClass().isArray() ? Array.getLength(one) : one.getClass().getDeclaredFields().length;
        }
        return count;
    }
}
