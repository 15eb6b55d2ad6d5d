import java.lang.reflect.InvocationTargetException;
import java.lang.reflect.Method;
import java.util.regex.Matcher;
import java.util.regex.Pattern;

/**
 * Checks runs of calls that are written as the document writes its examples:
 * "appendKey(0) = 1; bind(0, -1, 0, 0, 7) = 0". Each run begins with a new object.
 */
final class Runs {
    private static final Pattern CALL = Pattern.compile("\\s*(\\w+)\\(([-\\d, ]*)\\)\\s*=\\s*(-?\\d+)\\s*");
    private static final int CALLS_OF_ONE_OBJECT = 512;
    private int wrong = 0;

    /** Runs the calls of all parts on one new object. */
    void check(String name, String... parts) {
        reach(name, parts);
    }

    /** The same; the object that has made the calls is handed out, for what is not told as a run. */
    KeyCommandInterpreter reach(String name, String... parts) {
        KeyCommandInterpreter object = new KeyCommandInterpreter();
        int calls = 0;
        for (String part : parts) {
            calls += count(part);
            for (String call : part.split(";")) {
                if (!call.isBlank()) {
                    checkCall(name, object, call);
                }
            }
        }
        // What later calls answer is free, so a test of them would test nothing that is promised.
        due(name + ": a run of " + calls + " calls is short enough", calls <= CALLS_OF_ONE_OBJECT, true);
        return object;
    }

    /** The answer of a call that is told without it, as "press(3)". */
    static int answer(KeyCommandInterpreter object, String call) {
        int open = call.indexOf('(');
        return invoke(object, call.substring(0, open), call.substring(open + 1, call.length() - 1).trim());
    }

    /** The number of calls in a part. */
    static int count(String part) {
        return (int) part.chars().filter(sign -> sign == '=').count();
    }

    /** Compares an answer that is not told as a call in a run. */
    void due(String what, Object got, Object want) {
        if (!want.equals(got)) {
            wrong++;
            System.out.println(what + " is " + got + ", due is " + want);
        }
    }

    /** A run's part that is repeated. */
    static String times(int count, String part) {
        return (part + ";").repeat(count);
    }

    /** Ends the program with exit code 1 if an answer was wrong. */
    void end() {
        System.out.println(wrong == 0 ? "all answers are as due" : wrong + " answers are not as due");
        if (wrong != 0) {
            System.exit(1);
        }
    }

    private void checkCall(String name, KeyCommandInterpreter object, String call) {
        Matcher matcher = CALL.matcher(call);
        if (!matcher.matches()) {
            throw new IllegalArgumentException("not a call with its answer: " + call);
        }
        int got = invoke(object, matcher.group(1), matcher.group(2).trim());
        due(name + ": " + call.trim(), got, Integer.parseInt(matcher.group(3)));
    }

    private static int invoke(KeyCommandInterpreter object, String method, String list) {
        String[] texts = list.isEmpty() ? new String[0] : list.split(",");
        Class<?>[] types = new Class<?>[texts.length];
        Object[] arguments = new Object[texts.length];
        for (int i = 0; i < texts.length; i++) {
            types[i] = int.class;
            arguments[i] = Integer.parseInt(texts[i].trim());
        }
        try {
            Method found = KeyCommandInterpreter.class.getMethod(method, types);
            return (Integer) found.invoke(object, arguments);
        } catch (InvocationTargetException thrown) {
            throw new IllegalStateException(method + "(" + list + ") threw", thrown.getCause());
        } catch (ReflectiveOperationException missing) {
            throw new IllegalArgumentException(method + "(" + list + ") is no call", missing);
        }
    }
}
