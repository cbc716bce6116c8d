import java.lang.reflect.Constructor;
import java.lang.reflect.Field;
import java.lang.reflect.Method;
import java.lang.reflect.Modifier;
import java.util.Arrays;
import java.util.Map;
import java.util.Set;
import java.util.TreeMap;
import java.util.TreeSet;

/** The public face: every constant, constructor and method of the document, and no other member that can be seen. */
public final class FaceTest {
    private static final Map<String, Integer> CONSTANTS =
        Map.of("STAGE_FULL", -1, "BAD_SLOT", -2, "SLOT_USED", -3, "NO_BACKUP", -4, "BAD_PLACE", -5);
    private static final Set<String> METHODS = Set.of("void begin()", "int feed(int)", "int feedRun(int, int, int)",
        "int feedFrom(int, int, int)", "int poke(int, int)", "int insert(int, int)", "int cut(int, int)", "int save(int)",
        "int drop(int)", "int stageLength()", "int stageByte(int)", "int length(int)", "int byteAt(int, int)",
        "int sum(int)", "int commonStart(int, int)");

    public static void main(String[] args) throws IllegalAccessException {
        Class<?> face = SimilarDelta.class;
        Due.isTrue("class is public", Modifier.isPublic(face.getModifiers()));
        Due.isTrue("class is final", Modifier.isFinal(face.getModifiers()));
        Due.isTrue("no nested class", face.getDeclaredClasses().length == 0);
        constants(face);
        constructors(face);
        methods(face);
        Due.end("FaceTest");
    }

    private static void constants(Class<?> face) throws IllegalAccessException {
        Map<String, Integer> seen = new TreeMap<>();
        for (Field field : face.getDeclaredFields()) {
            if (Modifier.isPrivate(field.getModifiers())) {
                continue;
            }
            int wanted = Modifier.PUBLIC | Modifier.STATIC | Modifier.FINAL;
            Due.is("modifiers of " + field.getName(), field.getModifiers(), wanted);
            Due.isTrue(field.getName() + " is an int", field.getType() == int.class);
            seen.put(field.getName(), field.getInt(null));
        }
        Due.isTrue("constants are " + CONSTANTS + ", not " + seen, seen.equals(CONSTANTS));
    }

    private static void constructors(Class<?> face) {
        Constructor<?>[] all = face.getDeclaredConstructors();
        Due.is("number of constructors", all.length, 1);
        Due.is("parameters of the constructor", all[0].getParameterCount(), 0);
        Due.isTrue("constructor is public", Modifier.isPublic(all[0].getModifiers()));
    }

    private static void methods(Class<?> face) {
        Set<String> seen = new TreeSet<>();
        Set<String> publicNames = new TreeSet<>();
        for (Method method : face.getDeclaredMethods()) {
            if (!Modifier.isPrivate(method.getModifiers())) {
                Due.is("modifiers of " + method.getName(), method.getModifiers(), Modifier.PUBLIC);
                seen.add(signature(method));
                publicNames.add(method.getName());
            }
        }
        Due.isTrue("methods are " + METHODS + ", not " + seen, seen.equals(METHODS));
        for (Method method : face.getDeclaredMethods()) {
            boolean hidden = Modifier.isPrivate(method.getModifiers());
            Due.isTrue("private " + method.getName() + " has a name of its own",
                !(hidden && publicNames.contains(method.getName())));
        }
    }

    private static String signature(Method method) {
        String[] types = Arrays.stream(method.getParameterTypes()).map(Class::getName).toArray(String[]::new);
        return method.getReturnType().getName() + " " + method.getName() + "(" + String.join(", ", types) + ")";
    }
}
