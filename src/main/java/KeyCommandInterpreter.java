import java.util.ArrayList;

/**
 * An interpreter for key commands: bindings of key sequences in stacked contexts, conditions,
 * timeouts that settle ambiguous prefixes, and recorded macros.
 */
public final class KeyCommandInterpreter {
    public static final int INVALID_ARGUMENT = -1;
    public static final int INVALID_STATE = -2;
    public static final int LIMIT_REACHED = -3;
    public static final int NOT_FOUND = -4;
    public static final int FIRE = 0, PLAY = 1, PUSH = 2, POP = 3, SET = 4, CLEAR = 5;
    public static final int FIRED = 0, UNBOUND = 1, REFUSED = 2;
    public static final int NO_FLAG = -1;

    private static final int KEY_COUNT = 12;
    private static final int FLAG_COUNT = 6;
    private static final int CONTEXT_COUNT = 4;
    private static final int MACRO_COUNT = 4;
    private static final int COMMAND_COUNT = 100;

    private static final int SEQUENCE_LIMIT = 4;
    private static final int BINDING_LIMIT = 10;
    private static final int STACK_LIMIT = 4;
    private static final int MACRO_LIMIT = 12;
    private static final int NESTING_LIMIT = 3;
    private static final int PLAY_LIMIT = 20;
    private static final int READABLE_REPORTS = 40;

    private static final int INITIAL_TIMEOUT = 10;
    private static final int LONGEST_TIMEOUT = 99;
    private static final int MOST_TICKS = 999;

    private static final int CONTEXT_FACTOR = 16;
    private static final int NO_MACRO = -1;
    private static final int END_OF_MACRO = -1;

    // Keys only move between the pending sequence (three at most while it waits) and the waiting
    // row; a call brings in one that is pressed and those of the macros played, each macro with
    // its end mark.
    private static final int WAITING_LIMIT = SEQUENCE_LIMIT + PLAY_LIMIT * (MACRO_LIMIT + 1);

    // Every fall back uses up a key and returns at most three, so about a thousand steps are the
    // most that a call can need.
    private static final int STEP_LIMIT = 100000;

    private final Row buffer;
    private final Row pending;
    private final Row waiting;
    private final ArrayList<Row> macros;
    private final ArrayList<Context> contexts;
    private final ArrayList<Context> stack;
    private final int[] flags;
    private final ReportLog reports;
    private int timeout;
    private int remaining;
    private int recorded;
    private int playing;
    private int played;

    public KeyCommandInterpreter() {
        buffer = new Row(SEQUENCE_LIMIT);
        pending = new Row(SEQUENCE_LIMIT);
        waiting = new Row(WAITING_LIMIT);
        macros = new ArrayList<>();
        for (int macro = 0; macro < MACRO_COUNT; macro++) {
            macros.add(new Row(MACRO_LIMIT));
        }
        contexts = new ArrayList<>();
        for (int context = 0; context < CONTEXT_COUNT; context++) {
            contexts.add(new Context(context));
        }
        stack = new ArrayList<>();
        flags = new int[FLAG_COUNT];
        reports = new ReportLog();
        timeout = INITIAL_TIMEOUT;
        remaining = 0;
        recorded = NO_MACRO;
        playing = 0;
        played = 0;
        pushContext(0);
    }

    // ---- bindings

    public int appendKey(int key) {
        if (!isKey(key)) {
            return INVALID_ARGUMENT;
        }
        if (buffer.isFull()) {
            return LIMIT_REACHED;
        }
        buffer.add(key);
        return buffer.size();
    }

    public int clearKeys() {
        int length = buffer.size();
        buffer.clear();
        return length;
    }

    public int bind(int context, int flag, int value, int action, int argument) {
        if (!isContext(context) || !isCondition(flag, value) || !isAction(action, argument)) {
            return INVALID_ARGUMENT;
        }
        if (buffer.size() == 0) {
            return INVALID_STATE;
        }
        ArrayList<Binding> bindings = contexts.get(context).bindings;
        if (bindings.size() >= BINDING_LIMIT) {
            return LIMIT_REACHED;
        }
        bindings.add(new Binding(buffer.copy(), flag, value, action, argument));
        buffer.clear();
        return bindings.size() - 1;
    }

    public int unbind(int context, int binding) {
        if (!isBinding(context, binding)) {
            return INVALID_ARGUMENT;
        }
        ArrayList<Binding> bindings = contexts.get(context).bindings;
        bindings.remove(binding);
        return bindings.size();
    }

    public int bindingCount(int context) {
        if (!isContext(context)) {
            return INVALID_ARGUMENT;
        }
        return contexts.get(context).bindings.size();
    }

    public int shadowedBy(int context, int binding) {
        if (!isBinding(context, binding)) {
            return INVALID_ARGUMENT;
        }
        ArrayList<Binding> bindings = contexts.get(context).bindings;
        Binding shadowed = bindings.get(binding);
        for (int number = 0; number < binding; number++) {
            if (bindings.get(number).shadows(shadowed)) {
                return number;
            }
        }
        return NOT_FOUND;
    }

    // ---- input

    public int press(int key) {
        if (!isKey(key)) {
            return INVALID_ARGUMENT;
        }
        int reportsBefore = reports.count;
        played = 0;
        if (isMacro(recorded)) {
            macros.get(recorded).add(key);
        }
        waiting.add(key);
        processWaitingKeys();
        return reports.count - reportsBefore;
    }

    public int tick(int ticks) {
        if (!isBetween(ticks, 0, MOST_TICKS)) {
            return INVALID_ARGUMENT;
        }
        int reportsBefore = reports.count;
        played = 0;
        for (int gone = 0; gone < ticks && pending.size() > 0; gone++) {
            remaining--;
            if (remaining <= 0) {
                releasePending();
                processWaitingKeys();
            }
        }
        return reports.count - reportsBefore;
    }

    public int setTimeout(int ticks) {
        if (!isBetween(ticks, 1, LONGEST_TIMEOUT)) {
            return INVALID_ARGUMENT;
        }
        int previous = timeout;
        timeout = ticks;
        return previous;
    }

    public int setFlag(int flag, int value) {
        if (!isFlag(flag) || !isBetween(value, 0, 1)) {
            return INVALID_ARGUMENT;
        }
        int previous = flags[flag];
        flags[flag] = value;
        return previous;
    }

    public int pendingLength() {
        return pending.size();
    }

    public int pendingKey(int index) {
        if (index < 0) {
            return INVALID_ARGUMENT;
        }
        return pending.at(index);
    }

    public int remainingTime() {
        return pending.size() == 0 ? 0 : remaining;
    }

    public int pendingBinding() {
        return findBinding(pending.size());
    }

    // ---- state

    public int flag(int flag) {
        if (!isFlag(flag)) {
            return INVALID_ARGUMENT;
        }
        return flags[flag];
    }

    public int stackSize() {
        return stack.size();
    }

    public int stackContext(int depth) {
        if (depth < 0) {
            return INVALID_ARGUMENT;
        }
        if (depth >= stack.size()) {
            return NOT_FOUND;
        }
        return stack.get(stack.size() - 1 - depth).number;
    }

    // ---- macros

    public int startRecording(int macro) {
        if (!isMacro(macro)) {
            return INVALID_ARGUMENT;
        }
        if (recorded != NO_MACRO) {
            return INVALID_STATE;
        }
        Row keys = macros.get(macro);
        int length = keys.size();
        keys.clear();
        recorded = macro;
        return length;
    }

    public int stopRecording() {
        if (!isMacro(recorded)) {
            return INVALID_STATE;
        }
        int length = macros.get(recorded).size();
        recorded = NO_MACRO;
        return length;
    }

    public int macroKey(int macro, int index) {
        if (!isMacro(macro) || index < 0) {
            return INVALID_ARGUMENT;
        }
        return macros.get(macro).at(index);
    }

    // ---- reports

    public int reportCount() {
        return reports.count;
    }

    public int reportKind(int report) {
        if (report < 0) {
            return INVALID_ARGUMENT;
        }
        return reports.kindOf(report);
    }

    public int reportArgument(int report) {
        if (report < 0) {
            return INVALID_ARGUMENT;
        }
        return reports.argumentOf(report);
    }

    // ---- processing

    /**
     * Processes the keys of the waiting row from its end, so that keys that come back from a fall
     * back or out of a macro are processed before those that were waiting already.
     */
    private void processWaitingKeys() {
        for (int step = 0; step < STEP_LIMIT && waiting.size() > 0; step++) {
            int next = waiting.removeLast();
            if (next == END_OF_MACRO) {
                playing--;
                continue;
            }
            pending.add(next);
            if (isExtensible()) {
                remaining = timeout;
            } else {
                releasePending();
            }
        }
    }

    private boolean isExtensible() {
        for (int place = stack.size() - 1; place >= 0; place--) {
            ArrayList<Binding> bindings = stack.get(place).bindings;
            for (int number = 0; number < bindings.size(); number++) {
                Binding binding = bindings.get(number);
                if (binding.isLongerThan(pending) && binding.holds(flags)) {
                    return true;
                }
            }
        }
        return false;
    }

    /**
     * Performs the binding for the whole pending sequence or else falls back: the binding for the
     * whole is the greatest beginning of all, with nothing behind it.
     */
    private void releasePending() {
        int used = pending.size();
        int found = findBinding(used);
        while (found == NOT_FOUND && used > 1) {
            used--;
            found = findBinding(used);
        }
        int firstKey = pending.at(0);
        for (int index = pending.size() - 1; index >= used; index--) {
            waiting.add(pending.at(index));
        }
        pending.clear();
        if (found == NOT_FOUND) {
            reports.add(UNBOUND, firstKey);
        } else {
            perform(found / CONTEXT_FACTOR, found % CONTEXT_FACTOR);
        }
    }

    /** Finds the binding for the first keys of the pending sequence, coded as pendingBinding tells it. */
    private int findBinding(int length) {
        for (int place = stack.size() - 1; place >= 0; place--) {
            Context context = stack.get(place);
            for (int number = 0; number < context.bindings.size(); number++) {
                Binding binding = context.bindings.get(number);
                if (binding.isFor(pending, length) && binding.holds(flags)) {
                    return CONTEXT_FACTOR * context.number + number;
                }
            }
        }
        return NOT_FOUND;
    }

    // ---- actions

    private void perform(int context, int number) {
        if (!isBinding(context, number)) {
            return;
        }
        Binding binding = contexts.get(context).bindings.get(number);
        int argument = binding.argument;
        if (isRefused(binding.action, argument)) {
            reports.add(REFUSED, argument);
            return;
        }
        switch (binding.action) {
            case FIRE:
                reports.add(FIRED, argument);
                break;
            case PLAY:
                play(argument);
                break;
            case PUSH:
                pushContext(argument);
                break;
            case POP:
                popContext();
                break;
            case SET:
                setFlag(argument, 1);
                break;
            case CLEAR:
                setFlag(argument, 0);
                break;
            default:
                break;
        }
    }

    private boolean isRefused(int action, int argument) {
        switch (action) {
            case PLAY:
                return argument == recorded || playing >= NESTING_LIMIT || played >= PLAY_LIMIT;
            case PUSH:
                return stack.size() >= STACK_LIMIT;
            case POP:
                return stack.size() <= 1;
            default:
                return false;
        }
    }

    private void play(int macro) {
        if (!isMacro(macro)) {
            return;
        }
        playing++;
        played++;
        // The end mark is reached only when all that the last key causes has been processed too.
        waiting.add(END_OF_MACRO);
        Row keys = macros.get(macro);
        for (int index = keys.size() - 1; index >= 0; index--) {
            waiting.add(keys.at(index));
        }
    }

    private void pushContext(int context) {
        if (isContext(context)) {
            stack.add(contexts.get(context));
        }
    }

    private void popContext() {
        if (stack.size() > 1) {
            stack.remove(stack.size() - 1);
        }
    }

    // ---- ranges

    private static boolean isBetween(int number, int first, int last) {
        return number >= first && number <= last;
    }

    private static boolean isKey(int key) {
        return key >= 0 && key < KEY_COUNT;
    }

    private boolean isFlag(int flag) {
        return flag >= 0 && flag < flags.length;
    }

    private boolean isContext(int context) {
        return context >= 0 && context < contexts.size();
    }

    private boolean isMacro(int macro) {
        return macro >= 0 && macro < macros.size();
    }

    private boolean isBinding(int context, int number) {
        return isContext(context) && number >= 0 && number < contexts.get(context).bindings.size();
    }

    private boolean isCondition(int flag, int value) {
        return flag == NO_FLAG || (isFlag(flag) && isBetween(value, 0, 1));
    }

    private boolean isAction(int action, int argument) {
        switch (action) {
            case FIRE:
                return argument >= 0 && argument < COMMAND_COUNT;
            case PLAY:
                return isMacro(argument);
            case PUSH:
                return isContext(argument);
            case POP:
                return argument == 0;
            case SET:
            case CLEAR:
                return isFlag(argument);
            default:
                return false;
        }
    }

    /** A row of numbers that never outgrows its capacity: what is added to a full row is dropped. */
    private static final class Row {
        private final int[] items;
        private int size;

        private Row(int capacity) {
            items = new int[Math.max(capacity, 0)];
            size = 0;
        }

        private int size() {
            return size;
        }

        private boolean isFull() {
            return size >= items.length;
        }

        private void add(int item) {
            if (size < items.length) {
                items[size] = item;
                size++;
            }
        }

        private int at(int index) {
            return index >= 0 && index < size ? items[index] : NOT_FOUND;
        }

        private int removeLast() {
            if (size <= 0) {
                return NOT_FOUND;
            }
            size--;
            return items[size];
        }

        private void clear() {
            size = 0;
        }

        private Row copy() {
            Row copy = new Row(size);
            for (int index = 0; index < size; index++) {
                copy.add(items[index]);
            }
            return copy;
        }

        private boolean sharesBeginning(Row other, int length) {
            if (length > size || length > other.size) {
                return false;
            }
            for (int index = 0; index < length; index++) {
                if (items[index] != other.items[index]) {
                    return false;
                }
            }
            return true;
        }
    }

    private static final class Context {
        private final int number;
        private final ArrayList<Binding> bindings;

        private Context(int number) {
            this.number = number;
            bindings = new ArrayList<>();
        }
    }

    private static final class Binding {
        private final Row sequence;
        private final int conditionFlag;
        private final int conditionValue;
        private final int action;
        private final int argument;

        private Binding(Row sequence, int conditionFlag, int conditionValue, int action, int argument) {
            this.sequence = sequence;
            this.conditionFlag = conditionFlag;
            this.conditionValue = conditionValue;
            this.action = action;
            this.argument = argument;
        }

        private boolean holds(int[] flags) {
            if (conditionFlag < 0 || conditionFlag >= flags.length) {
                return true;
            }
            return flags[conditionFlag] == conditionValue;
        }

        private boolean isFor(Row keys, int length) {
            return sequence.size() == length && sequence.sharesBeginning(keys, length);
        }

        private boolean isLongerThan(Row keys) {
            return sequence.size() > keys.size() && sequence.sharesBeginning(keys, keys.size());
        }

        private boolean shadows(Binding other) {
            if (!isFor(other.sequence, other.sequence.size())) {
                return false;
            }
            return conditionFlag == NO_FLAG
                || (conditionFlag == other.conditionFlag && conditionValue == other.conditionValue);
        }
    }

    /** All reports are counted, but only the latest ones are kept: each takes the place of the oldest. */
    private static final class ReportLog {
        private final int[] kinds;
        private final int[] arguments;
        private int count;

        private ReportLog() {
            kinds = new int[READABLE_REPORTS];
            arguments = new int[READABLE_REPORTS];
            count = 0;
        }

        private void add(int kind, int argument) {
            int place = Math.floorMod(count, READABLE_REPORTS);
            kinds[place] = kind;
            arguments[place] = argument;
            count++;
        }

        private int kindOf(int report) {
            return isReadable(report) ? kinds[Math.floorMod(report, READABLE_REPORTS)] : NOT_FOUND;
        }

        private int argumentOf(int report) {
            return isReadable(report) ? arguments[Math.floorMod(report, READABLE_REPORTS)] : NOT_FOUND;
        }

        private boolean isReadable(int report) {
            return report >= 0 && report < count && report >= count - READABLE_REPORTS;
        }
    }
}
