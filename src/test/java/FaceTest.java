import java.lang.reflect.Constructor;
import java.lang.reflect.Field;
import java.lang.reflect.Method;
import java.lang.reflect.Modifier;
import java.util.Arrays;
import java.util.Set;
import java.util.TreeSet;

/** The public face is the document's and nothing more, and the fields are those that LANGUAGE.md allows. */
public final class FaceTest {
    private static final Set<String> FACE = new TreeSet<>(Arrays.asList(
        "BAD_CLIENT = -1", "BAD_KEY = -2", "FULL = -3", "BAD_CENTRE = -4",
        "NO_VERSION = -5", "HAS_COME = -6", "BEHIND = -7",
        "CausalStore()",
        "int write(int,int,int)", "int read(int,int)", "int move(int,int)",
        "int deliver(int,int)", "int deliverAll(int)", "boolean visible(int,int)",
        "int winner(int,int)", "int value(int)", "int stamp(int)", "boolean depends(int,int)",
        "int held(int)", "int seen(int)", "int agree(int,int)"));

    private static final Set<Class<?>> FIELD_TYPES = Set.of(
        int.class, long.class, short.class, byte.class, char.class, boolean.class,
        int[].class, long[].class, short[].class, byte[].class, char[].class, boolean[].class);

    public static void main(String[] args) throws IllegalAccessException {
        Class<?> store = CausalStore.class;
        Due.due("the class is public and final", store.getModifiers(), Modifier.PUBLIC | Modifier.FINAL);
        Due.due("the class has no nested class", store.getDeclaredClasses().length, 0);
        Set<String> face = faceOf(store);
        Due.due("the face " + face + " is that of the document", face.equals(FACE), true);
        lookAtFields(store);
        lookAtMethodNames(store);
        Due.end();
    }

    private static Set<String> faceOf(Class<?> store) throws IllegalAccessException {
        Set<String> face = new TreeSet<>();
        for (Field field : store.getDeclaredFields()) {
            if (!Modifier.isPrivate(field.getModifiers())) {
                boolean constant = field.getModifiers() == (Modifier.PUBLIC | Modifier.STATIC | Modifier.FINAL)
                    && field.getType() == int.class;
                face.add(constant ? field.getName() + " = " + field.getInt(null) : field.toString());
            }
        }
        for (Constructor<?> made : store.getDeclaredConstructors()) {
            if (!Modifier.isPrivate(made.getModifiers())) {
                face.add(made.toString().replace("public ", ""));
            }
        }
        for (Method method : store.getDeclaredMethods()) {
            if (!Modifier.isPrivate(method.getModifiers())) {
                face.add(method.toString().replace("public ", "").replace("CausalStore.", ""));
            }
        }
        return face;
    }

    private static void lookAtFields(Class<?> store) {
        for (Field field : store.getDeclaredFields()) {
            Due.due(field + " has an allowed type", FIELD_TYPES.contains(field.getType()), true);
            if (Modifier.isStatic(field.getModifiers())) {
                boolean constant = Modifier.isFinal(field.getModifiers())
                    && (field.getType() == int.class || field.getType() == long.class);
                Due.due(field + " is a constant", constant, true);
            }
        }
    }

    private static void lookAtMethodNames(Class<?> store) {
        Set<String> publicNames = new TreeSet<>();
        for (Method method : store.getMethods()) {
            publicNames.add(method.getName());
        }
        for (Method method : store.getDeclaredMethods()) {
            if (Modifier.isPrivate(method.getModifiers())) {
                Due.due(method + " bears a public method's name", publicNames.contains(method.getName()), false);
            }
        }
    }
}
