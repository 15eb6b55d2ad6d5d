import java.util.ArrayList;
import java.util.Arrays;
import java.util.Collections;
import java.util.List;
import java.util.Random;

/**
 * Compares random runs with a second interpreter that is written after the document's words: by
 * recursion, on lists that may grow. The seeds are fixed, so every run is the same each time.
 */
public final class ModelTest {
    private static final int RUNS = 20000;
    /** With the calls that read all at the end, an object makes less than 512. */
    private static final int MOST_CALLS = 290;
    private static final int FIRST_CALLS = 90;

    public static void main(String[] args) {
        int[] reached = new int[Model.RARE_EVENTS];
        for (int seed = 0; seed < RUNS; seed++) {
            Model model = new Model();
            String difference = runOnce(new Random(seed), model);
            if (difference != null) {
                System.out.println("seed " + seed + ": " + difference);
                System.exit(1);
            }
            for (int event = 0; event < reached.length; event++) {
                reached[event] += model.rare[event];
            }
        }
        for (int event = 0; event < reached.length; event++) {
            if (reached[event] == 0) {
                System.out.println("no run reached the rare event " + event);
                System.exit(1);
            }
        }
        System.out.println("all answers are as due in " + RUNS + " runs, rare events " + Arrays.toString(reached));
    }

    private static String runOnce(Random random, Model model) {
        KeyCommandInterpreter object = new KeyCommandInterpreter();
        int keys = 2 + random.nextInt(random.nextBoolean() ? 2 : 11);
        int macroBias = random.nextInt(60);
        List<String> calls = new ArrayList<>();
        int length = 1 + random.nextInt(MOST_CALLS);
        String difference = null;
        for (int call = 0; call < length && difference == null; call++) {
            int kind = call < FIRST_CALLS ? random.nextInt(50) : random.nextInt(100);
            difference = randomCall(random, kind, keys, macroBias, object, model, calls);
        }
        if (difference == null) {
            difference = stateDifference(object, model);
        }
        return difference == null ? null : difference + " after " + calls;
    }

    private static String randomCall(Random random, int kind, int keys, int macroBias,
            KeyCommandInterpreter object, Model model, List<String> calls) {
        int a = random.nextInt(keys);
        if (kind < 18) {
            calls.add("appendKey(" + a + ")");
            return compare(object.appendKey(a), model.appendKey(a));
        } else if (kind < 28) {
            int context = random.nextInt(random.nextBoolean() ? 1 : 4);
            int flag = random.nextInt(3) == 0 ? random.nextInt(8) - 1 : -1;
            int value = random.nextInt(20) == 0 ? 2 : random.nextInt(2);
            int action = random.nextInt(100) < macroBias ? 1 : random.nextInt(6);
            int argument = action == 3 ? random.nextInt(20) / 19 : random.nextInt(action == 0 ? 101 : action < 3 ? 4 : 6);
            calls.add("bind(" + context + ", " + flag + ", " + value + ", " + action + ", " + argument + ")");
            return compare(object.bind(context, flag, value, action, argument),
                model.bind(context, flag, value, action, argument));
        } else if (kind < 29) {
            int context = random.nextInt(5);
            int binding = random.nextInt(11);
            calls.add("unbind(" + context + ", " + binding + ")");
            return compare(object.unbind(context, binding), model.unbind(context, binding));
        } else if (kind < 30) {
            int flag = random.nextInt(7);
            int value = random.nextInt(2);
            calls.add("setFlag(" + flag + ", " + value + ")");
            return compare(object.setFlag(flag, value), model.setFlag(flag, value));
        } else if (kind < 32) {
            int macro = random.nextInt(4);
            calls.add("startRecording(" + macro + ")");
            return compare(object.startRecording(macro), model.startRecording(macro));
        } else if (kind < 33) {
            calls.add("stopRecording()");
            return compare(object.stopRecording(), model.stopRecording());
        } else if (kind < 34) {
            int ticks = random.nextInt(8);
            calls.add("setTimeout(" + ticks + ")");
            return compare(object.setTimeout(ticks), model.setTimeout(ticks));
        } else if (kind < 35) {
            calls.add("clearKeys()");
            return compare(object.clearKeys(), model.clearKeys());
        } else if (kind < 42) {
            int ticks = random.nextInt(10) == 0 ? random.nextInt(1001) : random.nextInt(12);
            calls.add("tick(" + ticks + ")");
            return compare(object.tick(ticks), model.tick(ticks));
        }
        int key = random.nextInt(40) == 0 ? random.nextInt(14) - 1 : a;
        calls.add("press(" + key + ")");
        return compare(object.press(key), model.press(key));
    }

    private static String compare(int got, int want) {
        return got == want ? null : "answered " + got + ", due is " + want;
    }

    /** Reads all that can be read; such calls change nothing, so they are not told. */
    private static String stateDifference(KeyCommandInterpreter object, Model model) {
        List<Integer> got = new ArrayList<>();
        List<Integer> want = new ArrayList<>();
        got.add(object.pendingLength());
        want.add(model.pending.size());
        for (int index = 0; index < 5; index++) {
            got.add(object.pendingKey(index));
            want.add(index < model.pending.size() ? model.pending.get(index) : -4);
            got.add(object.stackContext(index));
            want.add(index < model.stack.size() ? model.stack.get(model.stack.size() - 1 - index) : -4);
        }
        got.add(object.remainingTime());
        want.add(model.pending.isEmpty() ? 0 : model.remaining);
        got.add(object.pendingBinding());
        want.add(model.codeOf(model.bindingFor(model.pending)));
        got.add(object.stackSize());
        want.add(model.stack.size());
        for (int flag = 0; flag < 6; flag++) {
            got.add(object.flag(flag));
            want.add(model.flags[flag]);
        }
        got.add(object.reportCount());
        want.add(model.reports.size());
        for (int report = Math.max(0, model.reports.size() - 42); report <= model.reports.size(); report++) {
            boolean kept = report < model.reports.size() && report >= model.reports.size() - 40;
            got.add(object.reportKind(report));
            want.add(kept ? model.reports.get(report)[0] : -4);
            got.add(object.reportArgument(report));
            want.add(kept ? model.reports.get(report)[1] : -4);
        }
        for (int number = 0; number < 4; number++) {
            got.add(object.bindingCount(number));
            want.add(model.contexts.get(number).size());
            for (int index = 0; index < 13; index++) {
                List<Integer> macro = model.macros.get(number);
                got.add(object.macroKey(number, index));
                want.add(index < macro.size() ? macro.get(index) : -4);
                got.add(object.shadowedBy(number, index));
                want.add(model.shadowedBy(number, index));
            }
        }
        return got.equals(want) ? null : "state " + got + ", due is " + want;
    }

    private static final class Bound {
        List<Integer> keys;
        int flag;
        int value;
        int action;
        int argument;
    }

    private static final class Model {
        static final int RARE_EVENTS = 6;
        /**
         * How often: 0 a fall back's action left keys pending; a macro was refused because 1 it was
         * being recorded, 2 three were being played, 3 twenty had been played, 5 the same with none
         * being played; 4 processing went more than 20 deep.
         */
        final int[] rare = new int[RARE_EVENTS];
        final List<Integer> buffer = new ArrayList<>();
        final List<List<Bound>> contexts = new ArrayList<>();
        final List<List<Integer>> macros = new ArrayList<>();
        final List<Integer> stack = new ArrayList<>(List.of(0));
        final List<int[]> reports = new ArrayList<>();
        final int[] flags = new int[6];
        List<Integer> pending = new ArrayList<>();
        int timeout = 10;
        int remaining = 0;
        int recorded = -1;
        int playing = 0;
        int played = 0;
        int depth = 0;

        Model() {
            for (int number = 0; number < 4; number++) {
                contexts.add(new ArrayList<>());
                macros.add(new ArrayList<>());
            }
        }

        int appendKey(int key) {
            if (key < 0 || key > 11) {
                return -1;
            }
            if (buffer.size() == 4) {
                return -3;
            }
            buffer.add(key);
            return buffer.size();
        }

        int clearKeys() {
            int length = buffer.size();
            buffer.clear();
            return length;
        }

        int bind(int context, int flag, int value, int action, int argument) {
            int[] last = {99, 3, 3, 0, 5, 5};
            boolean wrong = context < 0 || context > 3 || flag < -1 || flag > 5
                || (flag != -1 && value != 0 && value != 1) || action < 0 || action > 5
                || argument < 0 || argument > last[action];
            if (wrong) {
                return -1;
            }
            if (buffer.isEmpty()) {
                return -2;
            }
            if (contexts.get(context).size() == 10) {
                return -3;
            }
            Bound bound = new Bound();
            bound.keys = new ArrayList<>(buffer);
            bound.flag = flag;
            bound.value = value;
            bound.action = action;
            bound.argument = argument;
            contexts.get(context).add(bound);
            buffer.clear();
            return contexts.get(context).size() - 1;
        }

        int unbind(int context, int binding) {
            if (context < 0 || context > 3 || binding < 0 || binding >= contexts.get(context).size()) {
                return -1;
            }
            contexts.get(context).remove(binding);
            return contexts.get(context).size();
        }

        int shadowedBy(int context, int binding) {
            List<Bound> all = contexts.get(context);
            if (binding >= all.size()) {
                return -1;
            }
            Bound shadowed = all.get(binding);
            for (int lower = 0; lower < binding; lower++) {
                Bound other = all.get(lower);
                boolean same = other.flag == shadowed.flag && other.value == shadowed.value;
                if (other.keys.equals(shadowed.keys) && (other.flag == -1 || same)) {
                    return lower;
                }
            }
            return -4;
        }

        int setFlag(int flag, int value) {
            if (flag < 0 || flag > 5) {
                return -1;
            }
            int previous = flags[flag];
            flags[flag] = value;
            return previous;
        }

        int setTimeout(int ticks) {
            if (ticks < 1 || ticks > 99) {
                return -1;
            }
            int previous = timeout;
            timeout = ticks;
            return previous;
        }

        int startRecording(int macro) {
            if (recorded != -1) {
                return -2;
            }
            int length = macros.get(macro).size();
            macros.get(macro).clear();
            recorded = macro;
            return length;
        }

        int stopRecording() {
            if (recorded == -1) {
                return -2;
            }
            int length = macros.get(recorded).size();
            recorded = -1;
            return length;
        }

        int press(int key) {
            if (key < 0 || key > 11) {
                return -1;
            }
            int before = reports.size();
            played = 0;
            if (recorded != -1 && macros.get(recorded).size() < 12) {
                macros.get(recorded).add(key);
            }
            process(key);
            return reports.size() - before;
        }

        int tick(int ticks) {
            if (ticks < 0 || ticks > 999) {
                return -1;
            }
            int before = reports.size();
            played = 0;
            for (int tick = 0; tick < ticks; tick++) {
                if (!pending.isEmpty()) {
                    remaining--;
                    if (remaining == 0) {
                        timeOut();
                    }
                }
            }
            return reports.size() - before;
        }

        void timeOut() {
            Bound whole = bindingFor(pending);
            if (whole != null) {
                pending = new ArrayList<>();
                perform(whole);
            } else {
                fallBack();
            }
        }

        void process(int key) {
            depth++;
            rare[4] += depth > 20 ? 1 : 0;
            pending.add(key);
            Bound whole = bindingFor(pending);
            if (isExtensible(pending)) {
                remaining = timeout;
            } else if (whole != null) {
                pending = new ArrayList<>();
                perform(whole);
            } else {
                fallBack();
            }
            depth--;
        }

        void fallBack() {
            List<Integer> old = pending;
            pending = new ArrayList<>();
            for (int k = old.size() - 1; k >= 1; k--) {
                Bound beginning = bindingFor(old.subList(0, k));
                if (beginning != null) {
                    perform(beginning);
                    rare[0] += pending.isEmpty() ? 0 : 1;
                    old.subList(k, old.size()).forEach(this::process);
                    return;
                }
            }
            report(1, old.get(0));
            old.subList(1, old.size()).forEach(this::process);
        }

        boolean holds(Bound bound) {
            return bound.flag == -1 || flags[bound.flag] == bound.value;
        }

        Bound bindingFor(List<Integer> keys) {
            for (int place = stack.size() - 1; place >= 0; place--) {
                for (Bound bound : contexts.get(stack.get(place))) {
                    if (holds(bound) && bound.keys.equals(keys)) {
                        return bound;
                    }
                }
            }
            return null;
        }

        int codeOf(Bound bound) {
            for (int context = 0; context < 4; context++) {
                int number = contexts.get(context).indexOf(bound);
                if (number >= 0) {
                    return 16 * context + number;
                }
            }
            return -4;
        }

        boolean isExtensible(List<Integer> keys) {
            for (int context : stack) {
                for (Bound bound : contexts.get(context)) {
                    boolean longer = bound.keys.size() > keys.size();
                    if (longer && holds(bound) && Collections.indexOfSubList(bound.keys, keys) == 0) {
                        return true;
                    }
                }
            }
            return false;
        }

        void perform(Bound bound) {
            if (bound.action == 0) {
                report(0, bound.argument);
            } else if (bound.action == 1) {
                play(bound.argument);
            } else if (bound.action == 2 && stack.size() < 4) {
                stack.add(bound.argument);
            } else if (bound.action == 3 && stack.size() > 1) {
                stack.remove(stack.size() - 1);
            } else if (bound.action >= 4) {
                flags[bound.argument] = bound.action == 4 ? 1 : 0;
            } else {
                report(2, bound.argument);
            }
        }

        void play(int macro) {
            rare[1] += macro == recorded ? 1 : 0;
            rare[2] += playing == 3 ? 1 : 0;
            rare[3] += played == 20 && playing < 3 ? 1 : 0;
            rare[5] += played == 20 && playing == 0 ? 1 : 0;
            if (macro == recorded || playing == 3 || played == 20) {
                report(2, macro);
                return;
            }
            played++;
            playing++;
            new ArrayList<>(macros.get(macro)).forEach(this::process);
            playing--;
        }

        void report(int kind, int argument) {
            reports.add(new int[] {kind, argument});
        }
    }
}
