/**
 * The document's sentences that name a boundary of a new object, the sequence buffer and the bindings (promises
 * 1 to 7), a check each. A check's name is the promise's number and the document's words.
 */
public final class BoundaryBindingsTest {
    private static final String TEN = Calls.each("appendKey(%) = 1; bind(0, -1, 0, 0, %) = #", 0, 9);
    private static final String MIN = "" + Integer.MIN_VALUE;
    private static final String MAX = "" + Integer.MAX_VALUE;

    public static void main(String[] args) {
        Runs runs = new Runs();
        newObject(runs);
        appendKey(runs);
        clearKeys(runs);
        bindPlaces(runs);
        bindConditions(runs);
        bindActions(runs);
        bindErrors(runs);
        bindEffects(runs);
        unbind(runs);
        bindingCount(runs);
        shadowedBySequence(runs);
        shadowedByCondition(runs);
        shadowedByErrors(runs);
        runs.end();
    }

    private static void newObject(Runs runs) {
        runs.check("1 initially all flags are 0", Calls.each("flag(%) = 0", 0, 5));
        runs.check("1 Initially it contains context 0 only", "stackSize() = 1; stackContext(0) = 0;",
            "stackContext(1) = -4");
        runs.check("1 a pending sequence, initially empty", "pendingLength() = 0; pendingKey(0) = -4;",
            "remainingTime() = 0; pendingBinding() = -4; tick(999) = 0");
        runs.check("1 The timeout is from 1 to 99 ticks; initially it is 10", "setTimeout(1) = 10");
        runs.check("1 There are 4 macros, each a list of at most 12 keys, initially empty",
            Calls.each("macroKey(%, 0) = -4", 0, 3), Calls.each("startRecording(%) = 0; stopRecording() = 0", 0, 3));
        runs.check("1 no macro is being recorded", "stopRecording() = -2; press(0) = 1;",
            Calls.each("macroKey(%, 0) = -4", 0, 3));
        runs.check("1 without bindings", Calls.each("bindingCount(%) = 0; unbind(%, 0) = -1", 0, 3),
            Calls.each("press(%) = 1; reportKind(#) = 1; reportArgument(#) = %", 0, 11));
        runs.check("1 with an empty sequence buffer", "bind(0, -1, 0, 0, 0) = -2; clearKeys() = 0; appendKey(0) = 1");
        runs.check("1 and no reports", "reportCount() = 0; reportKind(0) = -4; reportArgument(0) = -4");
    }

    private static void appendKey(Runs runs) {
        runs.check("2 key: 0 to 11", Calls.each("appendKey(%) = 1; clearKeys() = 1", 0, 11));
        runs.check("2 INVALID_ARGUMENT if key is out of range", Calls.outside("appendKey(%)", 0, 11),
            "clearKeys() = 0");
        runs.check("2 Returns the new length of the buffer", "appendKey(0) = 1; appendKey(0) = 2; appendKey(0) = 3;",
            "appendKey(0) = 4");
        runs.check("2 LIMIT_REACHED if the buffer has 4 keys", Calls.appended("0 1 2 3"),
            Calls.each("appendKey(%) = -3", 0, 11), "clearKeys() = 4; appendKey(11) = 1");
        runs.check("2 the buffer with 3 keys takes one more", Calls.appended("0 1 2"), "appendKey(3) = 4;",
            "clearKeys() = 4");
        runs.check("2 INVALID_ARGUMENT is returned rather than LIMIT_REACHED", Calls.appended("0 1 2 3"),
            Calls.outside("appendKey(%)", 0, 11));
    }

    private static void clearKeys(Runs runs) {
        runs.check("3 Returns the length that it had", "clearKeys() = 0;", Calls.appended("7"), "clearKeys() = 1;",
            Calls.appended("7 8"), "clearKeys() = 2;", Calls.appended("7 8 9"), "clearKeys() = 3;",
            Calls.appended("7 8 9 10"), "clearKeys() = 4; clearKeys() = 0");
        runs.check("3 Empties the sequence buffer: a full one has room for 4 keys again", Calls.appended("7 7 7 7"),
            "clearKeys() = 4;", Calls.bound(0, 0, "1 2 3 4", "FIRE 5"), Calls.pressed(0, "1 2 3"), "press(4) = 1;",
            Calls.reports(0, "FIRED 5"));
        runs.check("3 Empties the sequence buffer: there is nothing to bind", Calls.appended("7 7 7 7"),
            "clearKeys() = 4; bind(0, -1, 0, 0, 5) = -2; bindingCount(0) = 0");
        runs.check("3 bindings stay", Calls.bound(0, 0, "1", "FIRE 5"), Calls.appended("7"), "clearKeys() = 1;",
            "bindingCount(0) = 1; press(1) = 1;", Calls.reports(0, "FIRED 5"));
    }

    private static void bindPlaces(Runs runs) {
        runs.check("4 context: 0 to 3",
            Calls.each("appendKey(0) = 1; bind(%, -1, 0, 0, 0) = 0; bindingCount(%) = 1", 0, 3));
        runs.check("4 INVALID_ARGUMENT if the context is out of range", Calls.appended("0"),
            Calls.outside("bind(%, -1, 0, 0, 0)", 0, 3), Calls.each("bindingCount(%) = 0", 0, 3), "clearKeys() = 1");
        runs.check("4 Each context has at most 10 bindings, numbered from 0",
            Calls.each("appendKey(0) = 1; bind(0, -1, 0, 0, 0) = #", 0, 9),
            Calls.each("appendKey(0) = 1; bind(1, -1, 0, 0, 0) = #", 0, 9),
            Calls.each("appendKey(0) = 1; bind(2, -1, 0, 0, 0) = #", 0, 9),
            Calls.each("appendKey(0) = 1; bind(3, -1, 0, 0, 0) = #", 0, 9), "appendKey(0) = 1;",
            Calls.each("bind(%, -1, 0, 0, 0) = -3; bindingCount(%) = 10", 0, 3));
        runs.check("4 LIMIT_REACHED if the context has 10 bindings", TEN, Calls.appended("10 11"),
            "bind(0, -1, 0, 0, 5) = -3; bindingCount(0) = 10; clearKeys() = 2; press(10) = 1; press(9) = 1;",
            Calls.reports(0, "UNBOUND 10, FIRED 9"));
        runs.check("4 a full context does not fill the others", TEN, Calls.bound(1, 0, "0", "FIRE 5"));
        runs.check("4 A binding has a sequence of 1 to 4 keys: 1", Calls.bound(0, 0, "11", "FIRE 5"), "press(11) = 1;",
            Calls.reports(0, "FIRED 5"));
        runs.check("4 A binding has a sequence of 1 to 4 keys: 4", Calls.bound(0, 0, "11 0 11 0", "FIRE 5"),
            Calls.pressed(0, "11 0 11"), "press(0) = 1;", Calls.reports(0, "FIRED 5"));
        runs.check("4 INVALID_STATE if the buffer is empty",
            Calls.each("bind(%, -1, 0, 0, 0) = -2; bindingCount(%) = 0", 0, 3));
    }

    private static void bindConditions(Runs runs) {
        runs.check("4 flag: the flag of the condition, 0 to 5, or NO_FLAG",
            Calls.each("appendKey(0) = 1; bind(0, %, 0, 0, 0) = #", -1, 5),
            Calls.each("appendKey(0) = 1; bind(1, %, 1, 0, 0) = #", -1, 5));
        runs.check("4 INVALID_ARGUMENT if the flag is out of range", Calls.appended("0"),
            Calls.outside("bind(0, %, 0, 0, 0)", -1, 5), "bindingCount(0) = 0");
        runs.check("4 value: the value of the condition, 0 or 1",
            Calls.each("appendKey(0) = 1; bind(0, 0, %, 0, 0) = #", 0, 1),
            Calls.each("appendKey(0) = 1; bind(1, 5, %, 0, 0) = #", 0, 1));
        runs.check("4 INVALID_ARGUMENT if the value is out of range", Calls.appended("0"),
            Calls.outside("bind(0, 0, %, 0, 0)", 0, 1), Calls.outside("bind(0, 5, %, 0, 0)", 0, 1),
            "bindingCount(0) = 0");
        runs.check("4 ignored if flag is NO_FLAG", Calls.boundIf(-1, -1, 0, 0, "0", "FIRE 1"),
            Calls.boundIf(-1, 2, 0, 1, "1", "FIRE 2"), Calls.appended("2"), "bind(0, -1, " + MIN + ", 0, 3) = 2;",
            Calls.appended("3"), "bind(0, -1, " + MAX + ", 0, 4) = 3;", Calls.pressed(1, "0 1 2 3"),
            Calls.each("setFlag(%, 1) = 0", 0, 5), Calls.pressed(1, "0 1 2 3"),
            Calls.reports(0, "FIRED 1, FIRED 2, FIRED 3, FIRED 4, FIRED 1, FIRED 2, FIRED 3, FIRED 4"));
        runs.check("4 ignored if flag is NO_FLAG: no condition is no condition, whatever the value",
            Calls.boundIf(-1, 0, 0, 0, "0", "FIRE 1"), Calls.boundIf(-1, 7, 0, 1, "0", "FIRE 2"),
            "shadowedBy(0, 1) = 0");
    }

    private static void bindActions(Runs runs) {
        runs.check("4 action: FIRE, PLAY, PUSH, POP, SET or CLEAR",
            Calls.each("appendKey(0) = 1; bind(0, -1, 0, %, 0) = #", 0, 5));
        runs.check("4 INVALID_ARGUMENT if the action is out of range", Calls.appended("0"),
            Calls.outside("bind(0, -1, 0, %, 0)", 0, 5), "bindingCount(0) = 0");
        runs.check("4 argument: 0 to 99 for FIRE", Calls.bound(0, 0, "0", "FIRE 0"), Calls.bound(0, 1, "1", "FIRE 99"),
            Calls.appended("2"), Calls.outside("bind(0, -1, 0, 0, %)", 0, 99), "bindingCount(0) = 2");
        runs.check("4 argument: 0 to 3 for PLAY", Calls.each("appendKey(0) = 1; bind(0, -1, 0, 1, %) = #", 0, 3),
            Calls.appended("2"), Calls.outside("bind(0, -1, 0, 1, %)", 0, 3), "bindingCount(0) = 4");
        runs.check("4 argument: 0 to 3 for PUSH", Calls.each("appendKey(0) = 1; bind(0, -1, 0, 2, %) = #", 0, 3),
            Calls.appended("2"), Calls.outside("bind(0, -1, 0, 2, %)", 0, 3), "bindingCount(0) = 4");
        runs.check("4 argument: 0 to 5 for SET", Calls.each("appendKey(0) = 1; bind(0, -1, 0, 4, %) = #", 0, 5),
            Calls.appended("2"), Calls.outside("bind(0, -1, 0, 4, %)", 0, 5), "bindingCount(0) = 6");
        runs.check("4 argument: 0 to 5 for CLEAR", Calls.each("appendKey(0) = 1; bind(0, -1, 0, 5, %) = #", 0, 5),
            Calls.appended("2"), Calls.outside("bind(0, -1, 0, 5, %)", 0, 5), "bindingCount(0) = 6");
        runs.check("4 argument: it must be 0 for POP", Calls.bound(0, 0, "0", "POP 0"), Calls.appended("2"),
            Calls.outside("bind(0, -1, 0, 3, %)", 0, 0), "bindingCount(0) = 1");
    }

    private static void bindErrors(Runs runs) {
        String wrong = "bind(4, -1, 0, 0, 0) = -1; bind(0, 6, 0, 0, 0) = -1; bind(0, 0, 2, 0, 0) = -1;"
            + "bind(0, -1, 0, 6, 0) = -1; bind(0, -1, 0, 0, 100) = -1; bind(4, 6, 2, 6, 100) = -1;"
            + "bind(-1, -2, -1, -1, -1) = -1;";
        runs.check("4 INVALID_ARGUMENT is returned rather than INVALID_STATE", wrong, "bind(0, -1, 0, 0, 0) = -2");
        runs.check("4 INVALID_ARGUMENT is returned rather than LIMIT_REACHED", TEN, Calls.appended("0"), wrong,
            "bind(0, -1, 0, 0, 0) = -3");
        runs.check("4 INVALID_STATE is returned rather than LIMIT_REACHED", TEN, "bind(0, -1, 0, 0, 0) = -2");
        runs.check("4 INVALID_ARGUMENT is returned rather than both", TEN, wrong);
        runs.check("4 a refused call keeps the buffer", Calls.appended("1 2"), wrong, "bind(0, -1, 0, 0, 8) = 0;",
            "press(1) = 0; press(2) = 1;", Calls.reports(0, "FIRED 8"));
    }

    private static void bindEffects(Runs runs) {
        runs.check("4 The buffer becomes empty", Calls.bound(0, 0, "1 2 3 4", "FIRE 1"), "bind(0, -1, 0, 0, 2) = -2;",
            "clearKeys() = 0;", Calls.appended("5 6 7 8"));
        runs.check("4 behind the bindings of a context", Calls.bound(0, 0, "1", "FIRE 1"),
            Calls.bound(0, 1, "2", "FIRE 2"), "unbind(0, 0) = 1;", Calls.bound(0, 1, "3", "FIRE 3"),
            "unbind(0, 1) = 1; press(3) = 1; press(2) = 1;", Calls.reports(0, "UNBOUND 3, FIRED 2"));
        runs.check("4 it does not settle the pending sequence", Calls.bound(0, 0, "1 2", "FIRE 1"), "press(1) = 0;",
            "tick(3) = 0;", Calls.bound(0, 1, "1", "FIRE 2"), "pendingLength() = 1; remainingTime() = 7;",
            "pendingBinding() = 1; tick(7) = 1;", Calls.reports(0, "FIRED 2"));
    }

    private static void unbind(Runs runs) {
        runs.check("5 those behind it move down by one: the first of 10 is removed", TEN, "unbind(0, 0) = 9;",
            "unbind(0, 8) = 8;", Calls.pressed(1, "0 1 8 9"),
            Calls.reports(0, "UNBOUND 0, FIRED 1, FIRED 8, UNBOUND 9"));
        runs.check("5 those behind it move down by one: there is none behind the last of 10", TEN,
            "unbind(0, 9) = 9; unbind(0, 8) = 8;", Calls.pressed(1, "0 7 8 9"),
            Calls.reports(0, "FIRED 0, FIRED 7, UNBOUND 8, UNBOUND 9"));
        runs.check("5 Returns the number of bindings that remain: down to 0", TEN, "unbind(0, 0) = 9;",
            "unbind(0, 0) = 8; unbind(0, 0) = 7; unbind(0, 0) = 6; unbind(0, 0) = 5; unbind(0, 0) = 4;",
            "unbind(0, 0) = 3; unbind(0, 0) = 2; unbind(0, 0) = 1; unbind(0, 0) = 0; bindingCount(0) = 0;",
            "press(9) = 1;", Calls.reports(0, "UNBOUND 9"));
        runs.check("5 INVALID_ARGUMENT if context is out of range", TEN, Calls.outside("unbind(%, 0)", 0, 3),
            "bindingCount(0) = 10");
        runs.check("5 or there is no such binding: none", Calls.each("unbind(%, 0) = -1; unbind(%, -1) = -1", 0, 3));
        runs.check("5 or there is no such binding: one", Calls.bound(0, 0, "1", "FIRE 1"),
            Calls.outside("unbind(0, %)", 0, 0), "bindingCount(0) = 1; unbind(0, 0) = 0; unbind(0, 0) = -1");
        runs.check("5 or there is no such binding: ten", TEN, Calls.outside("unbind(0, %)", 0, 9),
            "bindingCount(0) = 10");
        runs.check("5 or there is no such binding: another context has one", TEN, "unbind(1, 0) = -1;",
            "unbind(3, 9) = -1; bindingCount(0) = 10");
        runs.check("5 a full context has room again", TEN, "unbind(0, 4) = 9;", Calls.bound(0, 9, "4", "FIRE 44"),
            "press(4) = 1;", Calls.appended("4"), "bind(0, -1, 0, 0, 1) = -3;", Calls.reports(0, "FIRED 44"));
        runs.check("5 the numbers begin with 0 again", Calls.bound(2, 0, "1", "FIRE 1"), "unbind(2, 0) = 0;",
            Calls.bound(2, 0, "1", "FIRE 1"));
    }

    private static void bindingCount(Runs runs) {
        runs.check("6 Returns the number of bindings: 0 to 10", "bindingCount(3) = 0;",
            Calls.each("appendKey(0) = 1; bind(3, -1, 0, 0, %) = #; bindingCount(3) = %", 1, 1),
            Calls.each("appendKey(0) = 1; bind(3, -1, 0, 0, %) = %", 1, 8), "bindingCount(3) = 9;",
            Calls.bound(3, 9, "0", "FIRE 9"), "bindingCount(3) = 10");
        runs.check("6 a refused binding is not counted", TEN, Calls.appended("0"), "bind(0, -1, 0, 0, 0) = -3;",
            "bindingCount(0) = 10; bind(1, 6, 0, 0, 0) = -1; bindingCount(1) = 0");
        runs.check("6 an inactive binding is counted", Calls.boundIf(0, 1, 2, 0, "0", "FIRE 9"), "bindingCount(2) = 1");
        runs.check("6 context: 0 to 3", Calls.each("bindingCount(%) = 0", 0, 3));
        runs.check("6 INVALID_ARGUMENT if context is out of range", Calls.outside("bindingCount(%)", 0, 3));
    }

    private static void shadowedBySequence(Runs runs) {
        runs.check("7 the first binding with a lower number", Calls.bound(0, 0, "1", "FIRE 1"),
            Calls.bound(0, 1, "1", "FIRE 1"), Calls.bound(0, 2, "1", "FIRE 1"), "shadowedBy(0, 1) = 0;",
            "shadowedBy(0, 2) = 0");
        runs.check("7 a lower number: not its own", Calls.bound(0, 0, "1", "FIRE 1"), "shadowedBy(0, 0) = -4");
        runs.check("7 a lower number: not a higher one", Calls.boundIf(0, 1, 0, 0, "1", "FIRE 1"),
            Calls.bound(0, 1, "1", "FIRE 1"), Calls.boundIf(0, 1, 0, 2, "1", "FIRE 1"), "shadowedBy(0, 0) = -4;",
            "shadowedBy(0, 2) = 0");
        runs.check("7 the last of 10 and the one before it",
            Calls.each("appendKey(%) = 1; bind(0, -1, 0, 0, %) = #", 0, 8), Calls.bound(0, 9, "8", "FIRE 1"),
            "shadowedBy(0, 8) = -4; shadowedBy(0, 9) = 8");
        runs.check("7 the same sequence: of 4 keys", Calls.bound(0, 0, "1 2 3 4", "FIRE 1"),
            Calls.bound(0, 1, "1 2 3 5", "FIRE 1"), Calls.bound(0, 2, "0 2 3 4", "FIRE 1"),
            Calls.bound(0, 3, "1 2 3 4", "FIRE 1"), "shadowedBy(0, 1) = -4; shadowedBy(0, 2) = -4;",
            "shadowedBy(0, 3) = 0");
        runs.check("7 the same sequence: not its beginning", Calls.bound(0, 0, "1 2 3", "FIRE 1"),
            Calls.bound(0, 1, "1 2 3 4", "FIRE 1"), "shadowedBy(0, 1) = -4");
        runs.check("7 the same sequence: not a longer one", Calls.bound(0, 0, "1 2 3 4", "FIRE 1"),
            Calls.bound(0, 1, "1 2 3", "FIRE 1"), "shadowedBy(0, 1) = -4");
        runs.check("7 of the same context", Calls.bound(0, 0, "1", "FIRE 1"), Calls.bound(1, 0, "2", "FIRE 1"),
            Calls.bound(1, 1, "1", "FIRE 1"), "shadowedBy(1, 1) = -4");
    }

    private static void shadowedByCondition(Runs runs) {
        runs.check("7 that has no condition: for a binding with one", Calls.bound(0, 0, "1", "FIRE 1"),
            Calls.boundIf(5, 0, 0, 1, "1", "FIRE 1"), "shadowedBy(0, 1) = 0");
        runs.check("7 that has no condition: for a binding with none", Calls.bound(0, 0, "1", "FIRE 1"),
            Calls.bound(0, 1, "1", "POP"), "shadowedBy(0, 1) = 0");
        runs.check("7 a condition does not shadow a binding with none", Calls.boundIf(0, 0, 0, 0, "1", "FIRE 1"),
            Calls.bound(0, 1, "1", "FIRE 1"), "shadowedBy(0, 1) = -4");
        runs.check("7 or the same condition", Calls.boundIf(0, 0, 0, 0, "1", "FIRE 1"),
            Calls.boundIf(0, 0, 0, 1, "1", "FIRE 1"), Calls.boundIf(5, 1, 0, 2, "1", "FIRE 1"),
            Calls.boundIf(5, 1, 0, 3, "1", "FIRE 1"), "shadowedBy(0, 1) = 0; shadowedBy(0, 3) = 2");
        runs.check("7 another value is not the same condition", Calls.boundIf(0, 0, 0, 0, "1", "FIRE 1"),
            Calls.boundIf(0, 1, 0, 1, "1", "FIRE 1"), "shadowedBy(0, 1) = -4");
        runs.check("7 another flag is not the same condition", Calls.boundIf(0, 1, 0, 0, "1", "FIRE 1"),
            Calls.boundIf(1, 1, 0, 1, "1", "FIRE 1"), "shadowedBy(0, 1) = -4");
        runs.check("7 conditions that do not hold, and contexts that are not in the stack, count too",
            Calls.boundIf(3, 1, 3, 0, "1", "FIRE 1"), Calls.boundIf(3, 1, 3, 1, "1", "FIRE 1"), "shadowedBy(3, 1) = 0");
    }

    private static void shadowedByErrors(Runs runs) {
        runs.check("7 INVALID_ARGUMENT if context is out of range", TEN, Calls.outside("shadowedBy(%, 0)", 0, 3));
        runs.check("7 or there is no such binding: none",
            Calls.each("shadowedBy(%, 0) = -1; shadowedBy(%, -1) = -1", 0, 3));
        runs.check("7 or there is no such binding: one", Calls.bound(1, 0, "1", "FIRE 1"),
            Calls.outside("shadowedBy(1, %)", 0, 0), "shadowedBy(1, 0) = -4; shadowedBy(0, 0) = -1;",
            "shadowedBy(2, 0) = -1");
        runs.check("7 or there is no such binding: ten", TEN, "shadowedBy(0, 9) = -4;",
            Calls.outside("shadowedBy(0, %)", 0, 9));
        runs.check("7 or there is no such binding: it has been removed", Calls.bound(0, 0, "1", "FIRE 1"),
            Calls.bound(0, 1, "1", "FIRE 1"), "shadowedBy(0, 1) = 0; unbind(0, 0) = 1; shadowedBy(0, 0) = -4;",
            "shadowedBy(0, 1) = -1");
    }
}
