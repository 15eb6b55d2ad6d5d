/** Promises 8 to 15: keys, ticks, the timeout, flags and the pending sequence. */
public final class InputTest {
    /** 0 fires 1; 0 1 fires 2; 0 1 2 3 fires 3. */
    private static final String CHAIN = "appendKey(0) = 1; bind(0, -1, 0, 0, 1) = 0;"
        + "appendKey(0) = 1; appendKey(1) = 2; bind(0, -1, 0, 0, 2) = 1;"
        + "appendKey(0) = 1; appendKey(1) = 2; appendKey(2) = 3; appendKey(3) = 4; bind(0, -1, 0, 0, 3) = 2;";

    public static void main(String[] args) {
        Runs runs = new Runs();
        press(runs);
        fallBack(runs);
        priorities(runs);
        actions(runs);
        tick(runs);
        setTimeout(runs);
        setFlag(runs);
        pending(runs);
        pendingBinding(runs);
        runs.end();
    }

    private static void press(Runs runs) {
        runs.check("8 range", "press(-1) = -1; press(12) = -1; press(-2147483648) = -1; press(2147483647) = -1;"
            + "reportCount() = 0; press(11) = 1; reportKind(0) = 1; reportArgument(0) = 11");
        runs.check("8 wrong keys leave the pending sequence", CHAIN, "press(0) = 0; press(12) = -1; pendingLength() = 1");
        runs.check("8 wrong keys are not recorded", "startRecording(0) = 0; press(12) = -1; stopRecording() = 0");
        runs.check("8 whole sequence", CHAIN, "press(0) = 0; press(1) = 0; press(2) = 0; press(3) = 1;"
            + "reportKind(0) = 0; reportArgument(0) = 3; pendingLength() = 0");
    }

    private static void fallBack(Runs runs) {
        runs.check("8 the longest bound beginning", CHAIN, "press(0) = 0; press(1) = 0; press(2) = 0; press(0) = 2;"
            + "reportKind(0) = 0; reportArgument(0) = 2; reportKind(1) = 1; reportArgument(1) = 2; pendingLength() = 1");
        runs.check("8 a shorter beginning, and the rest begins a sequence", CHAIN,
            "unbind(0, 1) = 2; press(0) = 0; press(1) = 0; press(0) = 2;"
            + "reportArgument(0) = 1; reportKind(1) = 1; reportArgument(1) = 1; pendingLength() = 1; pendingKey(0) = 0");
        runs.check("8 no beginning is bound", CHAIN, "unbind(0, 0) = 2; unbind(0, 0) = 1; press(0) = 0; press(1) = 0;"
            + "press(2) = 0; press(0) = 3; reportKind(0) = 1; reportArgument(0) = 0; reportArgument(1) = 1;"
            + "reportArgument(2) = 2; pendingLength() = 1; pendingKey(0) = 0");
        runs.check("8 an action changes what the rest means",
            "appendKey(0) = 1; bind(0, -1, 0, 4, 2) = 0; appendKey(0) = 1; appendKey(1) = 2; appendKey(9) = 3;"
            + "bind(0, -1, 0, 0, 1) = 1; appendKey(1) = 1; appendKey(5) = 2; bind(0, 2, 1, 0, 15) = 2;",
            "press(0) = 0; press(1) = 0; press(5) = 1; reportArgument(0) = 15; flag(2) = 1; pendingLength() = 0");
        runs.check("8 the rest is appended to what a macro left pending",
            "startRecording(1) = 0; press(3) = 1; stopRecording() = 1;"
            + "appendKey(0) = 1; bind(0, -1, 0, 1, 1) = 0; appendKey(0) = 1; appendKey(4) = 2; appendKey(9) = 3;"
            + "bind(0, -1, 0, 0, 1) = 1; appendKey(3) = 1; appendKey(4) = 2; appendKey(5) = 3; bind(0, -1, 0, 0, 34) = 2;",
            "press(0) = 0; press(4) = 0; press(5) = 1; reportArgument(1) = 34; pendingLength() = 0");
    }

    private static void priorities(Runs runs) {
        String two = "appendKey(5) = 1; bind(0, -1, 0, 2, 1) = 0; appendKey(6) = 1; bind(0, -1, 0, 2, 2) = 1;"
            + "appendKey(1) = 1; bind(0, -1, 0, 0, 10) = 2; appendKey(1) = 1; bind(1, 0, 1, 0, 11) = 0;"
            + "appendKey(1) = 1; bind(2, -1, 0, 0, 12) = 0; appendKey(1) = 1; bind(2, -1, 0, 0, 13) = 1;";
        runs.check("8 nearest to the top", two, "press(1) = 1; reportArgument(0) = 10; press(6) = 0; press(1) = 1;"
            + "reportArgument(1) = 12; press(5) = 0; press(1) = 1; reportArgument(2) = 12; setFlag(0, 1) = 0;"
            + "press(1) = 1; reportArgument(3) = 11");
        runs.check("8 a longer sequence in a lower context makes it wait",
            "appendKey(5) = 1; bind(0, -1, 0, 2, 1) = 0; appendKey(1) = 1; appendKey(2) = 2; bind(0, -1, 0, 0, 12) = 1;"
            + "appendKey(1) = 1; bind(1, -1, 0, 0, 11) = 0; press(5) = 0; press(1) = 0; press(2) = 1;"
            + "reportArgument(0) = 12");
        runs.check("8 a longer sequence whose condition does not hold",
            "appendKey(1) = 1; appendKey(2) = 2; bind(0, 0, 1, 0, 12) = 0; appendKey(1) = 1; bind(0, -1, 0, 0, 11) = 1;"
            + "press(1) = 1; setFlag(0, 1) = 0; press(1) = 0; setFlag(0, 0) = 1; press(2) = 2; reportArgument(1) = 11;"
            + "reportKind(2) = 1; reportArgument(2) = 2");
        runs.check("8 contexts that are not in the stack", "appendKey(1) = 1; bind(3, -1, 0, 0, 1) = 0; press(1) = 1;"
            + "reportKind(0) = 1");
        runs.check("8 a condition of value 0", "appendKey(1) = 1; bind(0, 5, 0, 0, 1) = 0; press(1) = 1; reportKind(0) = 0;"
            + "setFlag(5, 1) = 0; press(1) = 1; reportKind(1) = 1");
    }

    private static void actions(Runs runs) {
        runs.check("8 SET and CLEAR report nothing", "appendKey(1) = 1; bind(0, -1, 0, 4, 5) = 0; appendKey(2) = 1;"
            + "bind(0, -1, 0, 5, 5) = 1; press(1) = 0; flag(5) = 1; press(1) = 0; flag(5) = 1; press(2) = 0; flag(5) = 0;"
            + "flag(4) = 0");
        runs.check("8 PUSH and POP", "appendKey(1) = 1; bind(0, -1, 0, 2, 3) = 0; appendKey(2) = 1; bind(0, -1, 0, 3, 0) = 1;"
            + "press(1) = 0; press(1) = 0; press(1) = 0; stackSize() = 4; press(1) = 1; reportKind(0) = 2;"
            + "reportArgument(0) = 3; stackSize() = 4; stackContext(3) = 0; stackContext(2) = 3; press(2) = 0;"
            + "press(2) = 0; press(2) = 0; stackSize() = 1; press(2) = 1; reportKind(1) = 2; reportArgument(1) = 0;"
            + "stackSize() = 1; stackContext(0) = 0");
        runs.check("8 a popped context is no longer active", "appendKey(1) = 1; bind(0, -1, 0, 2, 2) = 0; appendKey(2) = 1;"
            + "bind(2, -1, 0, 3, 0) = 0; press(1) = 0; press(2) = 0; stackSize() = 1; press(2) = 1; reportKind(0) = 1");
    }

    private static void tick(Runs runs) {
        runs.check("9 range", "tick(-1) = -1; tick(1000) = -1; tick(0) = 0; tick(999) = 0; tick(-2147483648) = -1;"
            + "tick(2147483647) = -1");
        runs.check("9 wrong ticks let no time go by", CHAIN, "press(0) = 0; tick(1000) = -1; tick(-1) = -1; tick(0) = 0;"
            + "remainingTime() = 10");
        runs.check("9 the binding of the pending sequence", CHAIN, "press(0) = 0; press(1) = 0; tick(9) = 0; tick(1) = 1;"
            + "reportArgument(0) = 2; pendingLength() = 0");
        runs.check("9 falling back", CHAIN, "press(0) = 0; press(1) = 0; press(2) = 0; tick(10) = 2; reportArgument(0) = 2;"
            + "reportKind(1) = 1; reportArgument(1) = 2; pendingLength() = 0");
        runs.check("9 each settling starts the time again", CHAIN, "press(0) = 0; tick(9) = 0; press(1) = 0; tick(9) = 0;"
            + "remainingTime() = 1; press(2) = 0; remainingTime() = 10");
        runs.check("9 several timeouts in one call",
            "appendKey(0) = 1; appendKey(0) = 2; appendKey(0) = 3; appendKey(0) = 4; bind(0, -1, 0, 0, 1) = 0;"
            + "setTimeout(3) = 10; press(0) = 0; press(0) = 0; press(0) = 0; tick(3) = 1; pendingLength() = 2;"
            + "remainingTime() = 3; tick(4) = 1; pendingLength() = 1; remainingTime() = 2; tick(999) = 1;"
            + "pendingLength() = 0; press(0) = 0; press(0) = 0; press(0) = 0; tick(9) = 3; reportKind(5) = 1");
        runs.check("9 an extensible sequence without a binding", CHAIN, "unbind(0, 0) = 2; press(0) = 0; tick(10) = 1;"
            + "reportKind(0) = 1; reportArgument(0) = 0");
        runs.check("9 what is active is determined when the time is over",
            "appendKey(0) = 1; bind(0, 1, 1, 0, 1) = 0; appendKey(0) = 1; appendKey(1) = 2; bind(0, -1, 0, 0, 2) = 1;"
            + "press(0) = 0; setFlag(1, 1) = 0; tick(10) = 1; reportKind(0) = 0; press(0) = 0; tick(5) = 0;"
            + "setFlag(1, 0) = 1; tick(5) = 1; reportKind(1) = 1");
    }

    private static void setTimeout(Runs runs) {
        runs.check("10 range", "setTimeout(0) = -1; setTimeout(100) = -1; setTimeout(-1) = -1; setTimeout(1) = 10;"
            + "setTimeout(99) = 1; setTimeout(50) = 99; setTimeout(2147483647) = -1; setTimeout(50) = 50");
        runs.check("10 a pending sequence keeps its time", CHAIN, "press(0) = 0; tick(2) = 0; setTimeout(3) = 10;"
            + "remainingTime() = 8; tick(7) = 0; press(1) = 0; remainingTime() = 3; tick(2) = 0; tick(1) = 1");
        runs.check("10 the shortest", CHAIN, "setTimeout(1) = 10; press(0) = 0; remainingTime() = 1; tick(1) = 1");
    }

    private static void setFlag(Runs runs) {
        runs.check("11 values", "setFlag(0, 1) = 0; setFlag(0, 1) = 1; flag(0) = 1; setFlag(0, 0) = 1; setFlag(0, 0) = 0;"
            + "flag(0) = 0; setFlag(5, 1) = 0; flag(5) = 1; flag(4) = 0");
        runs.check("11 range", "setFlag(-1, 0) = -1; setFlag(6, 0) = -1; setFlag(0, -1) = -1; setFlag(0, 2) = -1;"
            + "setFlag(6, 2) = -1; flag(0) = 0");
        runs.check("11 the pending sequence is not settled",
            "appendKey(0) = 1; appendKey(1) = 2; bind(0, 0, 0, 0, 2) = 0; appendKey(0) = 1; bind(0, -1, 0, 0, 1) = 1;"
            + "press(0) = 0; tick(4) = 0; setFlag(0, 1) = 0; pendingLength() = 1; remainingTime() = 6; reportCount() = 0;"
            + "tick(6) = 1; reportArgument(0) = 1");
    }

    private static void pending(Runs runs) {
        runs.check("12 length", CHAIN, "pendingLength() = 0; press(0) = 0; pendingLength() = 1; press(1) = 0;"
            + "pendingLength() = 2; press(2) = 0; pendingLength() = 3; press(3) = 1; pendingLength() = 0");
        runs.check("13 keys", CHAIN, "pendingKey(0) = -4; pendingKey(-1) = -1; press(0) = 0; press(1) = 0; press(2) = 0;"
            + "pendingKey(0) = 0; pendingKey(1) = 1; pendingKey(2) = 2; pendingKey(3) = -4; pendingKey(4) = -4;"
            + "pendingKey(2147483647) = -4; pendingKey(-2147483648) = -1; press(3) = 1; pendingKey(0) = -4");
        runs.check("14 time", CHAIN, "remainingTime() = 0; press(0) = 0; remainingTime() = 10; tick(1) = 0;"
            + "remainingTime() = 9; tick(8) = 0; remainingTime() = 1; tick(1) = 1; remainingTime() = 0; tick(5) = 0;"
            + "remainingTime() = 0; press(0) = 0; tick(3) = 0; press(7) = 2; remainingTime() = 0");
    }

    private static void pendingBinding(Runs runs) {
        runs.check("15 context and number",
            "appendKey(9) = 1; bind(0, -1, 0, 2, 3) = 0; appendKey(0) = 1; appendKey(1) = 2; bind(0, -1, 0, 0, 1) = 1;"
            + "appendKey(0) = 1; bind(0, -1, 0, 0, 2) = 2; appendKey(5) = 1; bind(3, -1, 0, 0, 3) = 0;"
            + "appendKey(0) = 1; bind(3, 2, 1, 0, 4) = 1; appendKey(0) = 1; bind(3, 2, 1, 0, 5) = 2;",
            "pendingBinding() = -4; press(9) = 0; press(0) = 0; pendingBinding() = 2; setFlag(2, 1) = 0;"
            + "pendingBinding() = 49; unbind(3, 0) = 2; pendingBinding() = 48; setFlag(2, 0) = 1; pendingBinding() = 2;"
            + "unbind(0, 2) = 2; pendingBinding() = -4");
        runs.check("15 not a beginning or a longer one", CHAIN, "press(0) = 0; press(1) = 0; press(2) = 0;"
            + "pendingBinding() = -4; press(3) = 1; pendingBinding() = -4");
        runs.check("15 the lowest number", "appendKey(0) = 1; appendKey(1) = 2; bind(0, -1, 0, 0, 1) = 0;"
            + "appendKey(0) = 1; bind(0, -1, 0, 0, 2) = 1; appendKey(0) = 1; bind(0, -1, 0, 0, 3) = 2;"
            + "press(0) = 0; pendingBinding() = 1; tick(10) = 1; reportArgument(0) = 2");
    }
}
