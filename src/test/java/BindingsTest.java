/** Promises 1 to 7: a new object, the sequence buffer and the bindings. */
public final class BindingsTest {
    private static final String ALL_OF_4 = "appendKey(0) = 1; appendKey(1) = 2; appendKey(2) = 3; appendKey(3) = 4;";

    public static void main(String[] args) {
        Runs runs = new Runs();
        newObject(runs);
        appendKey(runs);
        clearKeys(runs);
        bind(runs);
        bindErrors(runs);
        unbind(runs);
        bindingCount(runs);
        shadowedBy(runs);
        runs.end();
    }

    private static void newObject(Runs runs) {
        runs.check("1 no bindings", "bindingCount(0) = 0; bindingCount(1) = 0; bindingCount(2) = 0; bindingCount(3) = 0");
        runs.check("1 empty buffer", "clearKeys() = 0");
        runs.check("1 no reports", "reportCount() = 0; reportKind(0) = -4; reportArgument(0) = -4");
        runs.check("1 flags", "flag(0) = 0; flag(1) = 0; flag(2) = 0; flag(3) = 0; flag(4) = 0; flag(5) = 0");
        runs.check("1 stack", "stackSize() = 1; stackContext(0) = 0; stackContext(1) = -4");
        runs.check("1 nothing pending",
            "pendingLength() = 0; pendingKey(0) = -4; remainingTime() = 0; pendingBinding() = -4");
        runs.check("1 timeout", "setTimeout(10) = 10");
        runs.check("1 macros", "macroKey(0, 0) = -4; macroKey(3, 0) = -4; stopRecording() = -2",
            "startRecording(0) = 0; stopRecording() = 0; startRecording(3) = 0");
    }

    private static void appendKey(Runs runs) {
        runs.check("2 lengths", ALL_OF_4, "appendKey(4) = -3; clearKeys() = 4");
        runs.check("2 range", "appendKey(-1) = -1; appendKey(12) = -1; appendKey(2147483647) = -1;"
            + "appendKey(-2147483648) = -1; clearKeys() = 0; appendKey(0) = 1; appendKey(11) = 2");
        runs.check("2 argument before limit", ALL_OF_4, "appendKey(12) = -1; appendKey(11) = -3");
        runs.check("2 the refused key is not kept", ALL_OF_4, "appendKey(9) = -3; bind(0, -1, 0, 0, 1) = 0;",
            "press(0) = 0; press(1) = 0; press(2) = 0; press(3) = 1; reportArgument(0) = 1");
    }

    private static void clearKeys(Runs runs) {
        runs.check("3 length", "appendKey(5) = 1; appendKey(5) = 2; clearKeys() = 2; clearKeys() = 0; appendKey(1) = 1");
        runs.check("3 then nothing to bind", "appendKey(5) = 1; clearKeys() = 1; bind(0, -1, 0, 0, 1) = -2");
        runs.check("3 old keys are gone", "appendKey(5) = 1; clearKeys() = 1; appendKey(6) = 1; bind(0, -1, 0, 0, 1) = 0;",
            "press(6) = 1; reportKind(0) = 0; press(5) = 1; reportKind(1) = 1");
    }

    private static void bind(Runs runs) {
        runs.check("4 numbers, and the buffer is emptied",
            "appendKey(0) = 1; bind(0, -1, 0, 0, 1) = 0; clearKeys() = 0; bind(0, -1, 0, 0, 1) = -2;"
            + "appendKey(1) = 1; bind(0, -1, 0, 0, 2) = 1; appendKey(1) = 1; bind(3, -1, 0, 0, 2) = 0");
        runs.check("4 the value is ignored without a flag",
            "appendKey(0) = 1; bind(0, -1, 2, 0, 1) = 0; appendKey(1) = 1; bind(0, -1, -7, 0, 2) = 1; press(1) = 1;"
            + "reportArgument(0) = 2");
        runs.check("4 edges of the arguments",
            "appendKey(0) = 1; bind(0, 0, 0, 0, 0) = 0; appendKey(1) = 1; bind(0, 5, 1, 0, 99) = 1;"
            + "appendKey(2) = 1; bind(0, -1, 0, 1, 3) = 2; appendKey(3) = 1; bind(0, -1, 0, 2, 3) = 3;"
            + "appendKey(4) = 1; bind(0, -1, 0, 3, 0) = 4; appendKey(5) = 1; bind(0, -1, 0, 4, 5) = 5;"
            + "appendKey(6) = 1; bind(0, -1, 0, 5, 5) = 6");
        runs.check("4 ten bindings", tenBindings(2),
            "appendKey(0) = 1; bind(2, -1, 0, 0, 1) = -3; clearKeys() = 1; bindingCount(2) = 10;"
            + "appendKey(0) = 1; bind(1, -1, 0, 0, 1) = 0");
        runs.check("4 a bound sequence is not changed by the buffer",
            "appendKey(0) = 1; bind(0, -1, 0, 0, 1) = 0; appendKey(1) = 1; appendKey(2) = 2; press(0) = 1;"
            + "reportArgument(0) = 1");
    }

    private static void bindErrors(Runs runs) {
        String wrong = "bind(-1, -1, 0, 0, 0) = -1; bind(4, -1, 0, 0, 0) = -1; bind(0, -2, 0, 0, 0) = -1;"
            + "bind(0, 6, 0, 0, 0) = -1; bind(0, 0, -1, 0, 0) = -1; bind(0, 5, 2, 0, 0) = -1;"
            + "bind(0, -1, 0, -1, 0) = -1; bind(0, -1, 0, 6, 0) = -1; bind(0, -1, 0, 0, -1) = -1;"
            + "bind(0, -1, 0, 0, 100) = -1; bind(0, -1, 0, 1, -1) = -1; bind(0, -1, 0, 1, 4) = -1;"
            + "bind(0, -1, 0, 2, -1) = -1; bind(0, -1, 0, 2, 4) = -1; bind(0, -1, 0, 3, 1) = -1;"
            + "bind(0, -1, 0, 3, -1) = -1; bind(0, -1, 0, 4, -1) = -1; bind(0, -1, 0, 4, 6) = -1;"
            + "bind(0, -1, 0, 5, -1) = -1; bind(0, -1, 0, 5, 6) = -1;";
        runs.check("4 wrong arguments come before an empty buffer", wrong);
        runs.check("4 wrong arguments change nothing", "appendKey(0) = 1;", wrong, "bindingCount(0) = 0; clearKeys() = 1");
        runs.check("4 wrong arguments come before the limit", tenBindings(0), "appendKey(0) = 1;", wrong);
        runs.check("4 an empty buffer comes before the limit", tenBindings(0), "bind(0, -1, 0, 0, 0) = -2");
    }

    private static void unbind(Runs runs) {
        String three = "appendKey(0) = 1; bind(1, -1, 0, 0, 10) = 0; appendKey(1) = 1; bind(1, -1, 0, 0, 11) = 1;"
            + "appendKey(2) = 1; bind(1, -1, 0, 0, 12) = 2; appendKey(9) = 1; bind(0, -1, 0, 2, 1) = 0; press(9) = 0;";
        runs.check("5 those behind move down", three, "unbind(1, 1) = 2; press(1) = 1; reportKind(0) = 1;"
            + "press(2) = 1; reportArgument(1) = 12; press(0) = 1; reportArgument(2) = 10;"
            + "unbind(1, 1) = 1; press(2) = 1; reportKind(3) = 1; unbind(1, 1) = -1; unbind(1, 0) = 0; unbind(1, 0) = -1");
        runs.check("5 other contexts stay", three, "unbind(0, 0) = 0; bindingCount(1) = 3");
        runs.check("5 range", three, "unbind(-1, 0) = -1; unbind(4, 0) = -1; unbind(1, -1) = -1; unbind(1, 3) = -1;"
            + "unbind(2, 0) = -1; bindingCount(1) = 3");
        runs.check("5 makes room", tenBindings(3), "unbind(3, 9) = 9; appendKey(0) = 1; bind(3, -1, 0, 0, 0) = 9");
        runs.check("5 a pending sequence stays", "appendKey(0) = 1; appendKey(1) = 2; bind(0, -1, 0, 0, 1) = 0;",
            "press(0) = 0; unbind(0, 0) = 0; pendingLength() = 1; tick(9) = 0; tick(1) = 1; reportKind(0) = 1");
    }

    private static void bindingCount(Runs runs) {
        runs.check("6", "bindingCount(-1) = -1; bindingCount(4) = -1; appendKey(0) = 1; bind(2, -1, 0, 0, 1) = 0;"
            + "bindingCount(2) = 1; bindingCount(1) = 0; bindingCount(3) = 0; unbind(2, 0) = 0; bindingCount(2) = 0");
        runs.check("6 ten", tenBindings(1), "bindingCount(1) = 10");
    }

    private static void shadowedBy(Runs runs) {
        runs.check("7 conditions",
            "appendKey(1) = 1; bind(2, 3, 1, 0, 0) = 0; appendKey(1) = 1; bind(2, 3, 0, 0, 0) = 1;"
            + "appendKey(1) = 1; bind(2, 4, 1, 0, 0) = 2; appendKey(1) = 1; bind(2, 4, 1, 0, 0) = 3;"
            + "appendKey(1) = 1; bind(2, -1, 0, 0, 0) = 4; appendKey(1) = 1; bind(2, 5, 1, 0, 0) = 5;"
            + "appendKey(1) = 1; bind(2, -1, 1, 0, 0) = 6; appendKey(1) = 1; bind(2, 3, 0, 0, 0) = 7;",
            "shadowedBy(2, 0) = -4; shadowedBy(2, 1) = -4; shadowedBy(2, 2) = -4; shadowedBy(2, 3) = 2;"
            + "shadowedBy(2, 4) = -4; shadowedBy(2, 5) = 4; shadowedBy(2, 6) = 4; shadowedBy(2, 7) = 1");
        runs.check("7 sequences",
            "appendKey(1) = 1; appendKey(2) = 2; bind(0, -1, 0, 0, 0) = 0; appendKey(1) = 1; bind(0, -1, 0, 0, 0) = 1;"
            + "appendKey(1) = 1; appendKey(3) = 2; bind(0, -1, 0, 0, 0) = 2; appendKey(1) = 1; appendKey(2) = 2;"
            + "appendKey(2) = 3; bind(0, -1, 0, 0, 0) = 3; appendKey(1) = 1; appendKey(2) = 2; bind(0, 1, 0, 0, 0) = 4;",
            "shadowedBy(0, 1) = -4; shadowedBy(0, 2) = -4; shadowedBy(0, 3) = -4; shadowedBy(0, 4) = 0");
        runs.check("7 other contexts do not shadow",
            "appendKey(1) = 1; bind(0, -1, 0, 0, 0) = 0; appendKey(1) = 1; bind(1, -1, 0, 0, 0) = 0; shadowedBy(1, 0) = -4");
        runs.check("7 range", "shadowedBy(0, 0) = -1; appendKey(1) = 1; bind(0, -1, 0, 0, 0) = 0; shadowedBy(0, 0) = -4;"
            + "shadowedBy(0, 1) = -1; shadowedBy(0, -1) = -1; shadowedBy(-1, 0) = -1; shadowedBy(4, 0) = -1");
        runs.check("7 after unbind", tenBindings(0), "shadowedBy(0, 9) = 0; unbind(0, 0) = 9; shadowedBy(0, 0) = -4;"
            + "shadowedBy(0, 8) = 0");
    }

    private static String tenBindings(int context) {
        StringBuilder calls = new StringBuilder();
        for (int number = 0; number < 10; number++) {
            calls.append("appendKey(7) = 1; bind(" + context + ", -1, 0, 0, 5) = " + number + ";");
        }
        return calls.toString();
    }
}
