import java.util.List;

/** Writes parts of runs for Runs, so that a check shows what matters in it and not its keys. */
final class Calls {
    private static final List<String> ACTIONS = List.of("FIRE", "PLAY", "PUSH", "POP", "SET", "CLEAR");
    private static final List<String> KINDS = List.of("FIRED", "UNBOUND", "REFUSED");

    private Calls() {
    }

    /** Binds keys, told as "0 1 2", to an action, told as "FIRE 7" or "POP", without a condition. */
    static String bound(int context, int number, String keys, String action) {
        return boundIf(-1, 0, context, number, keys, action);
    }

    /** The same with a condition. */
    static String boundIf(int flag, int value, int context, int number, String keys, String action) {
        String[] words = action.split(" ");
        int code = ACTIONS.indexOf(words[0]);
        String argument = words.length > 1 ? words[1] : "0";
        return appended(keys) + "bind(" + context + ", " + flag + ", " + value + ", " + code + ", " + argument + ") = "
            + number + ";";
    }

    /** Appends keys to an empty buffer. */
    static String appended(String keys) {
        StringBuilder calls = new StringBuilder();
        int length = 0;
        for (String key : keys.split(" ")) {
            length++;
            calls.append("appendKey(" + key + ") = " + length + ";");
        }
        return calls.toString();
    }

    /** Records an empty macro with keys that have no binding yet: each makes one report. */
    static String recorded(int macro, String keys) {
        String[] all = keys.split(" ");
        return "startRecording(" + macro + ") = 0;" + pressed(1, keys) + "stopRecording() = " + all.length + ";";
    }

    /** Presses keys, of which each makes the same number of reports: 0 if it waits. */
    static String pressed(int reports, String keys) {
        StringBuilder calls = new StringBuilder();
        for (String key : keys.split(" ")) {
            calls.append("press(" + key + ") = " + reports + ";");
        }
        return calls.toString();
    }

    /** Reads the reports from a number on, told as "FIRED 7, UNBOUND 5", and finds none behind them. */
    static String reports(int first, String told) {
        StringBuilder calls = new StringBuilder();
        int number = first;
        for (String report : told.split(", ")) {
            String[] words = report.split(" ");
            int kind = KINDS.indexOf(words[0]);
            calls.append("reportKind(" + number + ") = " + kind + ";");
            calls.append("reportArgument(" + number + ") = " + words[1] + ";");
            number++;
        }
        String behind = "reportCount() = %; reportKind(%) = -4; reportArgument(%) = -4;";
        return calls + behind.replace("%", "" + number);
    }

    /** Makes calls for each number of a range: % stands for the number, # counts from 0. */
    static String each(String part, int first, int last) {
        StringBuilder calls = new StringBuilder();
        for (int number = first; number <= last; number++) {
            calls.append(part.replace("%", "" + number).replace("#", "" + (number - first)) + ";");
        }
        return calls.toString();
    }

    /** Makes calls that answer INVALID_ARGUMENT, for the numbers around a range: % stands for the number. */
    static String outside(String call, int first, int last) {
        return below(call, first) + (call + " = -1;").replace("%", "" + (last + 1))
            + (call + " = -1;").replace("%", "" + Integer.MAX_VALUE);
    }

    /** The same below a range that is open above. */
    static String below(String call, int first) {
        return (call + " = -1;").replace("%", "" + (first - 1))
            + (call + " = -1;").replace("%", "" + Integer.MIN_VALUE);
    }

    /** A key in a text, several times: "1 1 1". */
    static String keys(int count, int key) {
        return (key + " ").repeat(count).trim();
    }
}
