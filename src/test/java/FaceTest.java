import java.lang.reflect.Constructor;
import java.lang.reflect.Field;
import java.lang.reflect.Method;
import java.lang.reflect.Modifier;
import java.util.Arrays;
import java.util.HashSet;
import java.util.Set;
import java.util.TreeMap;
import java.util.TreeSet;

/** The public face: its constants, constructor and methods, and nothing else. */
public final class FaceTest {
    private static final Check check = new Check("FaceTest");

    // Each method with the number of its arguments.
    private static final String FACE = "come2 leave1 wish2 setRule1 setPatience1 grant2 drop2 round0"
            + " divide0 swap4 settle0 heir2 bag3 hopper2 vetoes1 at1 total1 ifDivided2 fairestRule0"
            + " whoVetoes4 bestSwap1 append1 clearText0 errorPosition0 pour0 undo0 save0 restore0";

    public static void main(String[] args) throws IllegalAccessException {
        constants();
        methods();
        others();
        check.end();
    }

    private static void constants() throws IllegalAccessException {
        check.topic("constants");
        TreeMap<String, Integer> found = new TreeMap<>();
        for (Field field : MarbleHeirs.class.getDeclaredFields()) {
            int modifiers = field.getModifiers();
            if (Modifier.isPublic(modifiers)) {
                check.holds(field + " is static and final",
                        Modifier.isStatic(modifiers) && Modifier.isFinal(modifiers));
                found.put(field.getName(), field.getInt(null));
            } else {
                check.holds(field + " is private", Modifier.isPrivate(modifiers));
            }
        }
        String due = "{BAD_TEXT=-5, BAD_VALUE=-2, LIMIT=-4, NONE=-6, NOT_POSSIBLE=-3, NO_SUCH=-1}";
        check.holds("the constants are " + due + ", not " + found, due.equals(found.toString()));
    }

    private static void methods() {
        check.topic("methods");
        Set<String> due = new TreeSet<>(Arrays.asList(FACE.split(" ")));
        Set<String> found = new TreeSet<>();
        for (Method method : MarbleHeirs.class.getDeclaredMethods()) {
            if (Modifier.isPublic(method.getModifiers())) {
                found.add(method.getName() + method.getParameterCount());
                check.holds(method + " answers an int", method.getReturnType() == int.class);
                check.holds(method + " is not static", !Modifier.isStatic(method.getModifiers()));
                for (Class<?> type : method.getParameterTypes()) {
                    check.holds(method + " takes ints", type == int.class);
                }
            } else {
                check.holds(method + " is private", Modifier.isPrivate(method.getModifiers()));
            }
        }
        check.holds("the methods are " + due + ", not " + found, due.equals(found));
    }

    private static void others() {
        check.topic("class");
        Class<?> face = MarbleHeirs.class;
        check.holds("it is public and final",
                Modifier.isPublic(face.getModifiers()) && Modifier.isFinal(face.getModifiers()));
        Constructor<?>[] constructors = face.getDeclaredConstructors();
        check.due("constructors", constructors.length, 1);
        check.holds("the constructor is public",
                Modifier.isPublic(constructors[0].getModifiers()));
        check.due("its arguments", constructors[0].getParameterCount(), 0);
        Set<String> names = new HashSet<>(Arrays.asList(FACE.replaceAll("[0-9]", "").split(" ")));
        check.holds("there are at most 12 classes", face.getDeclaredClasses().length < 12);
        for (Class<?> inside : face.getDeclaredClasses()) {
            check.holds(inside + " is private and static", Modifier.isPrivate(inside.getModifiers())
                    && Modifier.isStatic(inside.getModifiers()));
            for (Method method : inside.getDeclaredMethods()) {
                check.holds(method + " has a name of its own", !names.contains(method.getName()));
            }
        }
    }
}
