import java.lang.reflect.Constructor;
import java.lang.reflect.Field;
import java.lang.reflect.Method;
import java.lang.reflect.Modifier;
import java.util.Arrays;
import java.util.Set;
import java.util.TreeSet;

/** The public face: every constant, the constructor and every method of the document, and no other member. */
public final class FaceTest {
    private static final Set<String> CONSTANTS = new TreeSet<>(Arrays.asList(
        "INVALID_ARGUMENT = -1", "INVALID_STATE = -2", "LIMIT_REACHED = -3", "NOT_FOUND = -4",
        "FIRE = 0", "PLAY = 1", "PUSH = 2", "POP = 3", "SET = 4", "CLEAR = 5",
        "FIRED = 0", "UNBOUND = 1", "REFUSED = 2", "NO_FLAG = -1"));
    private static final Set<String> METHODS = new TreeSet<>(Arrays.asList(
        "appendKey/1", "clearKeys/0", "bind/5", "unbind/2", "bindingCount/1", "shadowedBy/2", "press/1", "tick/1",
        "setTimeout/1", "setFlag/2", "pendingLength/0", "pendingKey/1", "remainingTime/0", "pendingBinding/0",
        "flag/1", "stackSize/0", "stackContext/1", "startRecording/1", "stopRecording/0", "macroKey/2",
        "reportCount/0", "reportKind/1", "reportArgument/1"));

    public static void main(String[] args) throws IllegalAccessException {
        Runs runs = new Runs();
        Class<?> face = KeyCommandInterpreter.class;
        runs.due("public final", face.getModifiers() & (Modifier.PUBLIC | Modifier.FINAL), Modifier.PUBLIC | Modifier.FINAL);
        runs.due("the constants", constants(face), CONSTANTS);
        runs.due("the methods", methods(face), METHODS);
        Constructor<?>[] constructors = face.getDeclaredConstructors();
        runs.due("the number of constructors", constructors.length, 1);
        runs.due("the constructor's parameters", constructors[0].getParameterCount(), 0);
        runs.due("the constructor is public", Modifier.isPublic(constructors[0].getModifiers()), true);
        for (Class<?> inside : face.getDeclaredClasses()) {
            runs.due(inside + " is static", Modifier.isStatic(inside.getModifiers()), true);
            runs.due(inside + " is public", Modifier.isPublic(inside.getModifiers()), false);
        }
        runs.end();
    }

    private static Set<String> constants(Class<?> face) throws IllegalAccessException {
        Set<String> found = new TreeSet<>();
        for (Field field : face.getDeclaredFields()) {
            if (!Modifier.isPrivate(field.getModifiers())) {
                boolean constant = Modifier.isStatic(field.getModifiers()) && Modifier.isFinal(field.getModifiers());
                found.add(field.getName() + " = " + (constant ? field.get(null) : "not a constant"));
            }
        }
        return found;
    }

    private static Set<String> methods(Class<?> face) {
        Set<String> found = new TreeSet<>();
        for (Method method : face.getDeclaredMethods()) {
            boolean hidden = Modifier.isPrivate(method.getModifiers());
            boolean plain = Modifier.isPublic(method.getModifiers()) && method.getReturnType() == int.class;
            String name = method.getName() + "/" + method.getParameterCount();
            if (!hidden) {
                found.add(plain ? name : name + " is not a public int");
            } else if (METHODS.stream().anyMatch(other -> other.startsWith(method.getName() + "/"))) {
                found.add(name + " is private");
            }
        }
        return found;
    }
}
