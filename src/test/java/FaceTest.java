import java.lang.reflect.Constructor;
import java.lang.reflect.Field;
import java.lang.reflect.Method;
import java.lang.reflect.Modifier;
import java.util.Set;
import java.util.TreeSet;

/** The class has the document's face and nothing else that is seen from outside. */
public final class FaceTest {
    private static final String[] METHODS = {
        "table 2", "add 2", "addRow 4", "merge 2", "reset 1", "tableOf 2", "keptAt 2", "sawAt 3", "hash 2", "has 3",
        "logAt 2", "count 1", "errorBits 1", "byError 1", "would 2", "raises 1", "both 3", "undo 0", "type 1",
        "clearText 0", "fault 1", "play 0"
    };

    public static void main(String[] args) {
        Check.due("modifiers", Modifier.toString(RoughTables.class.getModifiers()), "public final");
        constants();
        methods();
        constructors();
        nested();
        Check.end("FaceTest");
    }

    private static void constants() {
        Check.due("INVALID_ARGUMENT", RoughTables.INVALID_ARGUMENT, -1);
        Check.due("NOT_POSSIBLE", RoughTables.NOT_POSSIBLE, -2);
        Check.due("LIMIT_REACHED", RoughTables.LIMIT_REACHED, -3);
        Check.due("NOT_FOUND", RoughTables.NOT_FOUND, -4);
        Set<String> seen = new TreeSet<>();
        for (Field field : RoughTables.class.getDeclaredFields()) {
            if (!Modifier.isPrivate(field.getModifiers())) {
                seen.add(Modifier.toString(field.getModifiers()) + " " + field.getType() + " " + field.getName());
            }
        }
        Check.due("fields", seen.toString(), "[public static final int INVALID_ARGUMENT, "
            + "public static final int LIMIT_REACHED, public static final int NOT_FOUND, "
            + "public static final int NOT_POSSIBLE]");
    }

    private static void methods() {
        Set<String> due = new TreeSet<>();
        Set<String> names = new TreeSet<>();
        for (String method : METHODS) {
            due.add("public int " + method);
            names.add(method.substring(0, method.indexOf(' ')));
        }
        Set<String> seen = new TreeSet<>();
        for (Method method : RoughTables.class.getDeclaredMethods()) {
            int modifiers = method.getModifiers();
            if (Modifier.isPrivate(modifiers)) {
                Check.due("a private " + method.getName(), names.contains(method.getName()) ? 1 : 0, 0);
            } else {
                seen.add(Modifier.toString(modifiers) + " " + method.getReturnType() + " " + method.getName() + " "
                    + method.getParameterCount());
            }
        }
        Check.due("methods", seen.toString(), due.toString());
    }

    private static void constructors() {
        Constructor<?>[] made = RoughTables.class.getDeclaredConstructors();
        Check.due("constructors", made.length, 1);
        Check.due("constructor", made[0].toString(), "public RoughTables()");
    }

    private static void nested() {
        Class<?>[] inside = RoughTables.class.getDeclaredClasses();
        Check.due("at most twelve classes", inside.length <= 12 ? 1 : 0, 1);
        for (Class<?> one : inside) {
            int modifiers = one.getModifiers();
            Check.due(one.getName() + " hidden", Modifier.isPublic(modifiers) || Modifier.isProtected(modifiers) ? 1 : 0, 0);
            Check.due(one.getName() + " static", Modifier.isStatic(modifiers) ? 1 : 0, 1);
        }
    }
}
