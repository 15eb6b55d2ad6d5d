import java.util.ArrayList;
import java.util.List;
import java.util.Set;
import java.util.TreeSet;

/**
 * "A call that returns an error changes nothing": two objects come to the same state, one of them makes calls that
 * are refused, and then both are used in the same way and answer the same. No call answers an error that the document
 * does not name for it, and each error that it names is answered somewhere.
 */
public final class RefusedCallsTest {
    private static final int[] EDGES = {Integer.MIN_VALUE, -5, -2, -1, 0, 1, 2, 3, 4, 5, 6, 9, 10, 11, 12, 13, 39, 40, 41,
        98, 99, 100, 998, 999, 1000, Integer.MAX_VALUE};
    private static final int CALLS_OF_ONE_OBJECT = 512;

    /** Each call with the errors that the document names for it. */
    private static final Set<String> ERRORS = Set.of("appendKey -1", "appendKey -3", "bind -1", "bind -2", "bind -3",
        "unbind -1", "bindingCount -1", "shadowedBy -1", "shadowedBy -4", "press -1", "tick -1", "setTimeout -1",
        "setFlag -1", "pendingKey -1", "pendingKey -4", "pendingBinding -4", "flag -1", "stackContext -1",
        "stackContext -4", "startRecording -1", "startRecording -2", "stopRecording -2", "macroKey -1", "macroKey -4",
        "reportKind -1", "reportKind -4", "reportArgument -1", "reportArgument -4");

    /** Calls that change nothing, whatever they answer. */
    private static final Set<String> READING = Set.of("bindingCount", "shadowedBy", "pendingLength", "pendingKey",
        "remainingTime", "pendingBinding", "flag", "stackSize", "stackContext", "macroKey", "reportCount", "reportKind",
        "reportArgument");

    private static final String NEW = "";

    /** Everything that has a limit is full: the buffer, two contexts, the stack, the recorded macro, the reports. */
    private static final String FULL = Calls.each("appendKey(%) = 1; bind(0, -1, 0, 2, 1) = #", 1, 3)
        + Calls.each(Calls.appended("% 5 6 7") + "bind(0, -1, 0, 0, %) = %", 3, 9)
        + Calls.each("appendKey(9) = 1; bind(1, 2, 1, 4, 3) = #", 0, 9) + "setFlag(2, 1) = 0;" + Calls.pressed(0, "1 2 1")
        + "startRecording(2) = 0;" + Runs.times(45, "press(11) = 1") + Calls.pressed(0, "4 5 6")
        + "tick(6) = 0; setTimeout(30) = 10;" + Calls.appended("0 10 0 10");

    /** Everything stands between its limits. */
    private static final String MIDDLE = Calls.recorded(1, "8 9") + Calls.bound(0, 0, "0", "FIRE 1")
        + Calls.bound(0, 1, "0", "FIRE 2") + Calls.bound(0, 2, "0 1", "PLAY 1") + Calls.bound(0, 3, "2", "PUSH 2")
        + Calls.boundIf(4, 0, 2, 0, "3", "PUSH 2") + "press(2) = 0; press(0) = 0; tick(4) = 0; setTimeout(3) = 10;"
        + Calls.appended("5 4");

    /** A macro is being recorded and has room for more keys. */
    private static final String RECORDING = "startRecording(1) = 0;" + Calls.pressed(1, "8 9");

    public static void main(String[] args) {
        Runs runs = new Runs();
        Set<String> seen = new TreeSet<>();
        for (String state : List.of(NEW, FULL, MIDDLE, RECORDING)) {
            List<String> refused = refusedCalls(runs, state, seen);
            for (List<String> use : uses()) {
                compare(runs, state, refused, use);
            }
        }
        runs.due("the errors that were answered", seen, new TreeSet<>(ERRORS));
        runs.end();
    }

    /** The calls that change nothing in a state: those that answer an error, and those that only read. */
    private static List<String> refusedCalls(Runs runs, String state, Set<String> seen) {
        List<String> refused = new ArrayList<>();
        for (String call : allCalls()) {
            String name = call.substring(0, call.indexOf('('));
            int answer = Runs.answer(runs.reach("before " + call, state), call);
            if (answer < 0) {
                seen.add(name + " " + answer);
            }
            if (answer < 0 || READING.contains(name)) {
                refused.add(call);
            }
        }
        return refused;
    }

    /** Makes as many of the refused calls at once as an object has room for. */
    private static void compare(Runs runs, String state, List<String> refused, List<String> use) {
        List<Integer> due = answersAfter(runs, state, List.of(), use);
        int room = CALLS_OF_ONE_OBJECT - Runs.count(state) - use.size();
        for (int first = 0; first < refused.size(); first += room) {
            List<String> some = refused.subList(first, Math.min(first + room, refused.size()));
            List<Integer> got = answersAfter(runs, state, some, use);
            if (!got.equals(due)) {
                runs.due("the answers to " + use + " after " + culprit(runs, state, some, use), got, due);
            }
        }
    }

    private static String culprit(Runs runs, String state, List<String> some, List<String> use) {
        List<Integer> due = answersAfter(runs, state, List.of(), use);
        for (String call : some) {
            if (!answersAfter(runs, state, List.of(call), use).equals(due)) {
                return call;
            }
        }
        return some.toString();
    }

    private static List<Integer> answersAfter(Runs runs, String state, List<String> refused, List<String> use) {
        KeyCommandInterpreter object = runs.reach("before the refused calls", state);
        for (String call : refused) {
            Runs.answer(object, call);
        }
        List<Integer> answers = new ArrayList<>();
        for (String call : use) {
            answers.add(Runs.answer(object, call));
        }
        return answers;
    }

    private static List<String> allCalls() {
        List<String> calls = listed("stopRecording() pendingLength() remainingTime() pendingBinding() stackSize()"
            + " reportCount()");
        for (int a : EDGES) {
            for (String name : listed("appendKey bindingCount press tick setTimeout pendingKey flag stackContext"
                    + " startRecording reportKind reportArgument")) {
                calls.add(name + "(" + a + ")");
            }
            for (int b : EDGES) {
                for (String name : listed("unbind shadowedBy setFlag macroKey")) {
                    calls.add(name + "(" + a + "," + b + ")");
                }
            }
            calls.add("bind(" + a + ",-1,0,0,5)");
            calls.add("bind(0," + a + ",0,0,5)");
            calls.add("bind(1,3," + a + ",0,5)");
            calls.add("bind(0,-1,0," + a + ",0)");
            for (int action = 0; action <= 5; action++) {
                calls.add("bind(1,-1,0," + action + "," + a + ")");
            }
        }
        return calls;
    }

    /** Ways to use an object that bring out all of its state, the parts too that no call reads. */
    private static List<List<String>> uses() {
        List<String> reading = listed("pendingLength() remainingTime() pendingBinding() stackSize() reportCount()");
        List<String> keys = new ArrayList<>();
        for (int index = 0; index < 12; index++) {
            String small = " pendingKey(#) flag(#) stackContext(#) bindingCount(#)".replace("#", "" + index % 6);
            String large = "macroKey(1,#) macroKey(2,#) shadowedBy(0,#) shadowedBy(1,#)".replace("#", "" + index);
            reading.addAll(listed(large + small + " reportArgument(" + (5 + 4 * index) + ")"));
            keys.addAll(listed("press(" + index + ") press(1) pendingLength() reportCount() stackContext(0) flag(3)"));
        }
        List<String> buffer = listed("clearKeys() appendKey(3) clearKeys()");
        List<String> bufferKeys = listed("unbind(0,9) unbind(0,0) bind(0,-1,0,0,77) press(11) press(5) press(4) press(0)"
            + " press(10) press(0) press(10) reportCount() reportArgument(1) reportArgument(2) reportArgument(45)"
            + " reportArgument(46) reportArgument(47) reportArgument(48) reportArgument(49) reportArgument(50)");
        List<String> time = listed("tick(3) remainingTime() tick(1) pendingLength() setTimeout(2) press(0) press(4)"
            + " remainingTime() tick(2) tick(2) tick(2) reportCount()");
        List<String> recording = listed("stopRecording() startRecording(1) press(9) stopRecording() macroKey(1,0)"
            + " startRecording(2)");
        return List.of(reading, keys, buffer, bufferKeys, time, recording);
    }

    private static List<String> listed(String words) {
        return new ArrayList<>(List.of(words.split(" ")));
    }
}
