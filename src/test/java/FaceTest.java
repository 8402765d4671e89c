import java.lang.reflect.Constructor;
import java.lang.reflect.Field;
import java.lang.reflect.Method;
import java.lang.reflect.Modifier;
import java.util.Arrays;
import java.util.HashSet;
import java.util.Set;
import java.util.TreeSet;

/** The face of the document: its constants, the constructor and every method, and nothing else. */
final class FaceTest {
    private static final String[] METHODS = {
        "addGuest/0", "setValue/4", "append/1", "clearText/0", "read/1", "give/3", "putBack/2", "move/2",
        "cut/4", "trim/2", "exchange/0", "undo/0", "count/1", "guest/2", "crumb/1", "value/2", "envy/2",
        "ring/1", "middle/1", "best/1", "calm/1", "calls/2",
    };
    private static final String[] CONSTANTS = {"INVALID_ARGUMENT", "ILLEGAL_STATE", "CAPACITY_EXCEEDED", "NONE"};

    public static void main(String[] args) throws IllegalAccessException {
        Check.due("INVALID_ARGUMENT", CakeMarks.INVALID_ARGUMENT, -1);
        Check.due("ILLEGAL_STATE", CakeMarks.ILLEGAL_STATE, -2);
        Check.due("CAPACITY_EXCEEDED", CakeMarks.CAPACITY_EXCEEDED, -3);
        Check.due("NONE", CakeMarks.NONE, -9);
        theClass();
        constructors();
        methods();
        fields();
        classes();
        Check.finish();
    }

    private static void theClass() {
        Check.due("marks of the class", CakeMarks.class.getModifiers(), Modifier.PUBLIC | Modifier.FINAL);
        Check.that("the class has no package", CakeMarks.class.getPackageName().isEmpty());
        Check.that("the class extends nothing", CakeMarks.class.getSuperclass() == Object.class);
        Check.due("interfaces", CakeMarks.class.getInterfaces().length, 0);
    }

    private static void constructors() {
        Constructor<?>[] all = CakeMarks.class.getDeclaredConstructors();
        Check.due("constructors", all.length, 1);
        Check.due("marks of the constructor", all[0].getModifiers(), Modifier.PUBLIC);
        Check.due("arguments of the constructor", all[0].getParameterCount(), 0);
    }

    private static void methods() {
        Set<String> seen = new TreeSet<>();
        Set<String> names = new HashSet<>();
        for (Method method : CakeMarks.class.getDeclaredMethods()) {
            if (!Modifier.isPrivate(method.getModifiers())) {
                Check.due("marks of " + method, method.getModifiers(), Modifier.PUBLIC);
                Check.that(method + " answers an int", method.getReturnType() == int.class);
                for (Class<?> type : method.getParameterTypes()) {
                    Check.that(method + " takes ints", type == int.class);
                }
                Check.due("exceptions of " + method, method.getExceptionTypes().length, 0);
                seen.add(method.getName() + "/" + method.getParameterCount());
                names.add(method.getName());
            }
        }
        Check.that("methods are " + seen, seen.equals(new TreeSet<>(Arrays.asList(METHODS))));
        for (Method method : CakeMarks.class.getDeclaredMethods()) {
            boolean own = Modifier.isPrivate(method.getModifiers());
            Check.that(method + " bears a name of its own", !own || !names.contains(method.getName()));
        }
    }

    private static void fields() throws IllegalAccessException {
        Set<String> seen = new TreeSet<>();
        for (Field field : CakeMarks.class.getDeclaredFields()) {
            int marks = field.getModifiers();
            if (!Modifier.isPrivate(marks)) {
                Check.due("marks of " + field, marks, Modifier.PUBLIC | Modifier.STATIC | Modifier.FINAL);
                Check.that(field + " is an int", field.getType() == int.class && field.getInt(null) < 0);
                seen.add(field.getName());
            }
            Check.that(field + " is final if it is static", !Modifier.isStatic(marks) || Modifier.isFinal(marks));
        }
        Check.that("fields are " + seen, seen.equals(new TreeSet<>(Arrays.asList(CONSTANTS))));
    }

    private static void classes() {
        for (Class<?> inside : CakeMarks.class.getDeclaredClasses()) {
            int marks = inside.getModifiers();
            Check.that(inside + " is static and not public", Modifier.isStatic(marks)
                    && !Modifier.isPublic(marks) && !Modifier.isProtected(marks));
        }
    }
}
