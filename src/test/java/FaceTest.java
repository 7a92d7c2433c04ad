import java.lang.reflect.Constructor;
import java.lang.reflect.Field;
import java.lang.reflect.Method;
import java.lang.reflect.Modifier;
import java.util.Arrays;
import java.util.Map;
import java.util.Set;
import java.util.TreeMap;
import java.util.TreeSet;

/** The section 'The public face': every constant, the constructor and every method, no more. */
public final class FaceTest {
    private static final Class<?> FACE = WahBitmapIndex.class;

    private static final Set<String> METHODS = Set.of(
        "boolean appendRow[int]", "boolean appendRun[int, int]",
        "boolean combine[int, int, int, int]", "boolean selectRange[int, int, int]",
        "boolean clearResult[int]", "int getRowCount[]", "int getCapacity[]",
        "int getValueCount[]", "int getValueAt[int]", "int getLength[int]",
        "boolean testBit[int, int]", "int countBits[int]", "int nextSetRow[int, int]",
        "int getWordCount[int]", "int getWord[int, int]");

    public static void main(String[] args) throws IllegalAccessException {
        Due.due("modifiers", Modifier.toString(FACE.getModifiers()), "public final");
        Due.due("nested classes", FACE.getDeclaredClasses().length, 0);
        Due.due("constructors", constructors(), "[public [int, int]]");
        Due.due("methods", methods(), new TreeSet<>(METHODS).toString());
        Due.due("constants", constants().toString(), dueConstants().toString());
        Due.due("doubled method names", doubledNames().toString(), "[]");
        Due.end();
    }

    private static String constructors() {
        Set<String> found = new TreeSet<>();
        for (Constructor<?> constructor : FACE.getDeclaredConstructors()) {
            found.add(Modifier.toString(constructor.getModifiers()) + " "
                + types(constructor.getParameterTypes()));
        }
        return found.toString();
    }

    private static String methods() {
        Set<String> found = new TreeSet<>();
        for (Method method : FACE.getDeclaredMethods()) {
            String form = method.getReturnType() + " " + method.getName()
                + types(method.getParameterTypes());
            if (Modifier.isPublic(method.getModifiers())) {
                found.add(form + (Modifier.isStatic(method.getModifiers()) ? " static" : ""));
            } else if (!Modifier.isPrivate(method.getModifiers())) {
                found.add(form + " not private");
            }
        }
        return found.toString();
    }

    private static Set<String> doubledNames() {
        Set<String> open = new TreeSet<>();
        Set<String> hidden = new TreeSet<>();
        for (Method method : FACE.getDeclaredMethods()) {
            (Modifier.isPublic(method.getModifiers()) ? open : hidden).add(method.getName());
        }
        open.retainAll(hidden);
        return open;
    }

    private static Map<String, Integer> constants() throws IllegalAccessException {
        Map<String, Integer> found = new TreeMap<>();
        for (Field field : FACE.getDeclaredFields()) {
            if (Modifier.isPrivate(field.getModifiers())) {
                continue;
            }
            boolean constant = Modifier.toString(field.getModifiers()).equals("public static final")
                && field.getType() == int.class;
            found.put(field.getName() + (constant ? "" : " not a constant"),
                constant ? field.getInt(null) : 0);
        }
        return found;
    }

    private static Map<String, Integer> dueConstants() {
        Map<String, Integer> due = new TreeMap<>();
        due.put("GROUP_BITS", 31);
        due.put("MIN_GROUPS", 1);
        due.put("MAX_GROUPS", 16);
        due.put("MIN_VALUES", 1);
        due.put("MAX_VALUES", 8);
        due.put("RESULT_BASE", 8);
        due.put("RESULT_COUNT", 4);
        due.put("NULL_VALUE", -1);
        due.put("NO_ROW", -2);
        due.put("FILL_FLAG", 0x80000000);
        due.put("FILL_ONE", 0x40000000);
        due.put("FILL_COUNT_MASK", 0x3FFFFFFF);
        due.put("OP_AND", 1);
        due.put("OP_OR", 2);
        due.put("OP_ANDNOT", 3);
        due.put("OP_XOR", 4);
        due.put("OP_NOT", 5);
        due.put("OP_COPY", 6);
        return due;
    }

    private static String types(Class<?>[] types) {
        return Arrays.toString(types);
    }
}
