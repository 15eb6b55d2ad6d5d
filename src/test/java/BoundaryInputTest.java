/**
 * The document's sentences that name a boundary of keys, ticks and the pending sequence (promises 8 to 15), a check
 * each. A check's name is the promise's number and the document's words.
 */
public final class BoundaryInputTest {
    /** Every beginning of 0 1 2 3 fires its length; number 3 is the shortest. */
    private static final String LADDER = Calls.bound(0, 0, "0 1 2 3", "FIRE 4") + Calls.bound(0, 1, "0 1 2", "FIRE 3")
        + Calls.bound(0, 2, "0 1", "FIRE 2") + Calls.bound(0, 3, "0", "FIRE 1");
    /** Three keys 0 are pending and none of their beginnings is bound. */
    private static final String THREE_PENDING = Calls.bound(0, 0, "0 0 0 1", "FIRE 4") + Calls.pressed(0, "0 0 0");

    public static void main(String[] args) {
        Runs runs = new Runs();
        press(runs);
        conditions(runs);
        bindingForSequence(runs);
        extensible(runs);
        settle(runs);
        fallBack(runs);
        fallBackRest(runs);
        momentOfActivity(runs);
        tick(runs);
        timeOut(runs);
        manyTimeouts(runs);
        setTimeout(runs);
        setFlag(runs);
        pendingSequence(runs);
        remainingTime(runs);
        pendingBinding(runs);
        runs.end();
    }

    private static void press(Runs runs) {
        runs.check("8 There are 12 keys, numbered 0 to 11", Calls.each("press(%) = 1; reportArgument(#) = %", 0, 11));
        runs.check("8 INVALID_ARGUMENT if key is out of range", Calls.outside("press(%)", 0, 11), "reportCount() = 0");
        runs.check("8 INVALID_ARGUMENT if key is out of range, while keys are pending", THREE_PENDING, "tick(4) = 0;",
            Calls.outside("press(%)", 0, 11), "pendingLength() = 3; remainingTime() = 6; reportCount() = 0");
        runs.check("8 Returns the number of reports made by this call: none", LADDER, "press(0) = 0;",
            "reportCount() = 0");
        runs.check("8 Returns the number of reports made by this call: not those of earlier calls", THREE_PENDING,
            "press(2) = 4; press(2) = 1; reportCount() = 5");
        // Macro 0 plays macro 1 twelve times, that plays macro 2 twelve times, that has twelve keys without a binding:
        // of the 240 keys of 20 macros 19 play a macro, and the other 221 are reported as UNBOUND or REFUSED.
        String most = Calls.recorded(0, Calls.keys(12, 1)) + Calls.recorded(1, Calls.keys(12, 2))
            + Calls.recorded(2, Calls.keys(12, 9)) + Calls.each("appendKey(%) = 1; bind(0, -1, 0, 1, %) = #", 0, 2);
        runs.check("8 Returns the number of reports made by this call: the most", most, "press(0) = 221;",
            "reportCount() = 257; press(0) = 221; reportCount() = 478");
        runs.check("An object is used for at most 512 calls", Calls.each("press(%) = 1", 0, 11),
            Runs.times(499, "press(3) = 1"), "reportCount() = 511");
        runs.check("An object is used for at most 512 calls: the dearest ones", most, Runs.times(463, "press(0) = 221"),
            "reportCount() = " + (36 + 463 * 221));
    }

    private static void conditions(Runs runs) {
        String both = Calls.boundIf(0, 0, 0, 0, "1", "FIRE 10") + Calls.boundIf(5, 1, 0, 1, "2", "FIRE 21");
        runs.check("8 it holds if the flag has the value: 0", both, "press(1) = 1; setFlag(0, 1) = 0; press(1) = 1;",
            "setFlag(0, 0) = 1; press(1) = 1;", Calls.reports(0, "FIRED 10, UNBOUND 1, FIRED 10"));
        runs.check("8 it holds if the flag has the value: 1", both, "press(2) = 1; setFlag(5, 1) = 0; press(2) = 1;",
            "setFlag(5, 0) = 1; press(2) = 1;", Calls.reports(0, "UNBOUND 2, FIRED 21, UNBOUND 2"));
        runs.check("8 it holds if it is none", Calls.bound(0, 0, "1", "FIRE 1"), "press(1) = 1;",
            Calls.each("setFlag(%, 1) = 0", 0, 5), "press(1) = 1;", Calls.reports(0, "FIRED 1, FIRED 1"));
        String inContext1 = Calls.boundIf(2, 1, 1, 0, "1", "FIRE 1") + Calls.bound(0, 0, "9", "PUSH 1");
        runs.check("8 active if its context is in the context stack and its condition holds: neither", inContext1,
            "press(1) = 1;", Calls.reports(0, "UNBOUND 1"));
        runs.check("8 active if its context is in the context stack and its condition holds: the condition alone",
            inContext1, "setFlag(2, 1) = 0; press(1) = 1;", Calls.reports(0, "UNBOUND 1"));
        runs.check("8 active if its context is in the context stack and its condition holds: the context alone",
            inContext1, "press(9) = 0; press(1) = 1;", Calls.reports(0, "UNBOUND 1"));
        runs.check("8 active if its context is in the context stack and its condition holds: both", inContext1,
            "setFlag(2, 1) = 0; press(9) = 0; press(1) = 1;", Calls.reports(0, "FIRED 1"));
        runs.check("8 in the context stack: at the bottom of 4", Calls.bound(0, 0, "1", "FIRE 1"),
            Calls.bound(0, 1, "9", "PUSH 1"), Calls.pressed(0, "9 9 9"), "stackSize() = 4; press(1) = 1;",
            Calls.reports(0, "FIRED 1"));
    }

    private static void bindingForSequence(Runs runs) {
        String two = Calls.bound(0, 0, "1", "FIRE 10") + Calls.bound(1, 0, "1", "FIRE 11") + Calls.bound(0, 1, "8", "PUSH 0")
            + Calls.bound(0, 2, "9", "PUSH 1");
        runs.check("8 whose context is nearest to the top: above", two, "press(9) = 0; press(1) = 1;",
            Calls.reports(0, "FIRED 11"));
        runs.check("8 whose context is nearest to the top: a context that occurs several times", two, "press(9) = 0;",
            "press(8) = 0; press(1) = 1; press(9) = 0; press(1) = 1;", Calls.reports(0, "FIRED 10, FIRED 11"));
        runs.check("8 nearest to the top comes before the lowest number", Calls.bound(0, 0, "1", "FIRE 10"),
            Calls.bound(0, 1, "9", "PUSH 3"), Calls.each("appendKey(5) = 1; bind(3, -1, 0, 0, 0) = #", 0, 8),
            Calls.bound(3, 9, "1", "FIRE 39"), "press(9) = 0; press(1) = 1;", Calls.reports(0, "FIRED 39"));
        runs.check("8 of several in the same context, the one with the lowest number",
            Calls.bound(0, 0, "1", "FIRE 10"), Calls.bound(0, 1, "1", "FIRE 11"), "press(1) = 1; unbind(0, 0) = 1;",
            "press(1) = 1;", Calls.reports(0, "FIRED 10, FIRED 11"));
        runs.check("8 the lowest number of the active ones", Calls.boundIf(1, 1, 0, 0, "1", "FIRE 10"),
            Calls.bound(0, 1, "1", "FIRE 11"), "press(1) = 1; setFlag(1, 1) = 0; press(1) = 1;",
            Calls.reports(0, "FIRED 11, FIRED 10"));
        runs.check("8 a context below, when none of the top is active", Calls.bound(0, 0, "1", "FIRE 10"),
            Calls.bound(0, 1, "9", "PUSH 1"), Calls.boundIf(1, 1, 1, 0, "1", "FIRE 11"), "press(9) = 0;",
            "press(1) = 1; setFlag(1, 1) = 0; press(1) = 1;", Calls.reports(0, "FIRED 10, FIRED 11"));
        runs.check("8 the last of 10 bindings", Calls.each("appendKey(5) = 1; bind(0, -1, 0, 0, 0) = #", 0, 8),
            Calls.bound(0, 9, "1", "FIRE 19"), "press(1) = 1;", Calls.reports(0, "FIRED 19"));
    }

    private static void extensible(Runs runs) {
        runs.check("8 whose sequence is longer than s: not one as long", Calls.bound(0, 0, "0 1", "FIRE 1"),
            Calls.bound(0, 1, "0 1", "FIRE 2"), "press(0) = 0; press(1) = 1; pendingLength() = 0");
        runs.check("8 whose sequence is longer than s: by one", Calls.bound(0, 0, "0 1 2 3", "FIRE 1"),
            "press(0) = 0; press(1) = 0; press(2) = 0; pendingLength() = 3; press(3) = 1");
        runs.check("8 whose sequence is longer than s: by three", Calls.bound(0, 0, "0 1 2 3", "FIRE 1"),
            "press(0) = 0; pendingLength() = 1");
        runs.check("8 and begins with s: not another first key", Calls.bound(0, 0, "0 1 2 3", "FIRE 1"),
            "press(1) = 1; pendingLength() = 0");
        runs.check("8 and begins with s: not another last key", Calls.bound(0, 0, "0 1 2 3", "FIRE 1"),
            "press(0) = 0; press(1) = 0; press(3) = 3; pendingLength() = 0");
        runs.check("8 if there is an active binding: its condition does not hold",
            Calls.boundIf(4, 1, 0, 0, "0 1", "FIRE 1"), "press(0) = 1; setFlag(4, 1) = 0; press(0) = 0");
        runs.check("8 if there is an active binding: its context is not in the stack",
            Calls.bound(3, 0, "0 1", "FIRE 1"), Calls.bound(0, 0, "9", "PUSH 3"), "press(0) = 1; press(9) = 0;",
            "press(0) = 0");
        runs.check("8 if there is an active binding: at the bottom of 4 contexts", Calls.bound(0, 0, "0 1", "FIRE 1"),
            Calls.bound(0, 1, "9", "PUSH 3"), Calls.bound(3, 0, "0", "FIRE 2"), Calls.pressed(0, "9 9 9 0"),
            "press(1) = 1;", Calls.reports(0, "FIRED 1"));
        runs.check("8 if there is an active binding: the last of 10",
            Calls.each("appendKey(5) = 1; bind(0, -1, 0, 0, 0) = #", 0, 8), Calls.bound(0, 9, "1 2", "FIRE 19"),
            "press(1) = 0; press(2) = 1;", Calls.reports(0, "FIRED 19"));
    }

    private static void settle(Runs runs) {
        runs.check("8 If p is extensible, the interpreter waits, though there is a binding for p", LADDER,
            Calls.pressed(0, "0 1 2"), "pendingLength() = 3; reportCount() = 0");
        runs.check("8 the remaining time becomes the timeout, and p stays", LADDER, "press(0) = 0; tick(9) = 0;",
            "remainingTime() = 1; press(1) = 0; remainingTime() = 10; tick(9) = 0; press(2) = 0;",
            "remainingTime() = 10; pendingKey(0) = 0; pendingKey(1) = 1; pendingKey(2) = 2");
        runs.check("8 Otherwise, if there is a binding for p, p becomes empty: with 4 keys", LADDER,
            Calls.pressed(0, "0 1 2"), "press(3) = 1; pendingLength() = 0; remainingTime() = 0;",
            Calls.reports(0, "FIRED 4"));
        runs.check("8 Otherwise, if there is a binding for p, p becomes empty: with 1 key",
            Calls.bound(0, 0, "11", "FIRE 4"), "press(11) = 1; pendingLength() = 0; remainingTime() = 0;",
            Calls.reports(0, "FIRED 4"));
    }

    private static void fallBack(Runs runs) {
        runs.check("8 the greatest number from 1 to the length of p minus 1: 3 of 4", LADDER, Calls.pressed(0, "0 1 2"),
            "press(5) = 2;", Calls.reports(0, "FIRED 3, UNBOUND 5"), "pendingLength() = 0");
        runs.check("8 the greatest number from 1 to the length of p minus 1: 2 of 4", LADDER, "unbind(0, 1) = 3;",
            Calls.pressed(0, "0 1 2"), "press(5) = 3;", Calls.reports(0, "FIRED 2, UNBOUND 2, UNBOUND 5"),
            "pendingLength() = 0");
        runs.check("8 the greatest number from 1 to the length of p minus 1: 1 of 4", LADDER, "unbind(0, 1) = 3;",
            "unbind(0, 1) = 2;", Calls.pressed(0, "0 1 2"), "press(5) = 4;",
            Calls.reports(0, "FIRED 1, UNBOUND 1, UNBOUND 2, UNBOUND 5"), "pendingLength() = 0");
        runs.check("8 the greatest number from 1 to the length of p minus 1: 1 of 2", LADDER, "press(0) = 0;",
            "press(5) = 2;", Calls.reports(0, "FIRED 1, UNBOUND 5"), "pendingLength() = 0");
        runs.check("8 If there is no such k: p has 4 keys", LADDER, "unbind(0, 1) = 3; unbind(0, 1) = 2;",
            "unbind(0, 1) = 1;", Calls.pressed(0, "0 1 2"), "press(5) = 4;",
            Calls.reports(0, "UNBOUND 0, UNBOUND 1, UNBOUND 2, UNBOUND 5"), "pendingLength() = 0");
        runs.check("8 If there is no such k: p has 1 key and its rest is empty", "press(5) = 1;",
            Calls.reports(0, "UNBOUND 5"), "pendingLength() = 0; remainingTime() = 0");
        runs.check("8 a binding for the first k keys that is not active", LADDER, "unbind(0, 1) = 3;",
            Calls.boundIf(3, 1, 0, 3, "0 1 2", "FIRE 3"), Calls.pressed(0, "0 1 2"), "press(5) = 3;",
            Calls.reports(0, "FIRED 2, UNBOUND 2, UNBOUND 5"));
        runs.check("8 a binding for the first k keys in a lower context is as good", LADDER,
            Calls.bound(0, 4, "9", "PUSH 1"), Calls.bound(1, 0, "0", "FIRE 11"), "press(9) = 0;",
            Calls.pressed(0, "0 1"), "press(5) = 2;", Calls.reports(0, "FIRED 2, UNBOUND 5"));
    }

    private static void fallBackRest(Runs runs) {
        runs.check("8 and then the keys of r are processed: the rest waits", LADDER, Calls.pressed(0, "0 1 2"),
            "tick(4) = 0; press(0) = 1;", Calls.reports(0, "FIRED 3"), "pendingLength() = 1; pendingKey(0) = 0;",
            "remainingTime() = 10");
        runs.check("8 and then the keys of r are processed: the rest is a whole sequence",
            Calls.bound(0, 0, "0 1 2 3", "FIRE 4"), Calls.bound(0, 1, "1 2", "FIRE 2"), Calls.pressed(0, "0 1 2"),
            "press(5) = 3;", Calls.reports(0, "UNBOUND 0, FIRED 2, UNBOUND 5"));
        runs.check("8 and then the keys of r are processed: the rest falls back again and again", THREE_PENDING,
            "press(2) = 4;", Calls.reports(0, "UNBOUND 0, UNBOUND 0, UNBOUND 0, UNBOUND 2"), "pendingLength() = 0");
        runs.check("8 and then the keys of r are processed: three keys wait again", THREE_PENDING, "press(0) = 1;",
            "pendingLength() = 3; press(1) = 1; pendingLength() = 0;", Calls.reports(0, "UNBOUND 0, FIRED 4"));
        String leavesThree = Calls.recorded(0, "4 5 6") + Calls.bound(0, 0, "4 5 6 7", "FIRE 44")
            + Calls.bound(0, 1, "0", "PLAY 0") + Calls.bound(0, 2, "0 1", "FIRE 1");
        runs.check("8 the keys of r are appended to whatever is pending then: a fourth key", leavesThree,
            "press(0) = 0; press(7) = 1; reportArgument(3) = 44; reportCount() = 4; pendingLength() = 0");
        runs.check("8 the keys of r are appended to whatever is pending then: it falls back", leavesThree,
            "press(0) = 0; press(8) = 4; reportArgument(3) = 4; reportArgument(4) = 5; reportArgument(5) = 6;",
            "reportArgument(6) = 8; pendingLength() = 0");
        runs.check("9 the keys of r are appended to whatever is pending then: by a timeout", leavesThree,
            Calls.bound(0, 3, "0 7 8", "FIRE 2"), "press(0) = 0; press(7) = 0; tick(9) = 0; tick(1) = 1;",
            "reportArgument(3) = 44; pendingLength() = 0");
    }

    private static void momentOfActivity(Runs runs) {
        String waits = Calls.bound(0, 0, "0 1 9", "FIRE 9");
        runs.check("8 active is determined at the moment when it matters: SET before the rest", waits,
            Calls.bound(0, 1, "0", "SET 5"), Calls.boundIf(5, 1, 0, 2, "1", "FIRE 1"), "press(0) = 0; press(1) = 0;",
            "press(5) = 2;", Calls.reports(0, "FIRED 1, UNBOUND 5"));
        runs.check("8 active is determined at the moment when it matters: CLEAR before the rest", waits,
            Calls.bound(0, 1, "0", "CLEAR 5"), Calls.boundIf(5, 1, 0, 2, "1", "FIRE 1"), "setFlag(5, 1) = 0;",
            "press(0) = 0; press(1) = 0; press(5) = 2;", Calls.reports(0, "UNBOUND 1, UNBOUND 5"));
        runs.check("8 active is determined at the moment when it matters: PUSH before the rest", waits,
            Calls.bound(0, 1, "0", "PUSH 1"), Calls.bound(1, 0, "1", "FIRE 1"), "press(0) = 0; press(1) = 0;",
            "press(5) = 2;", Calls.reports(0, "FIRED 1, UNBOUND 5"));
        runs.check("8 active is determined at the moment when it matters: POP before the rest", waits,
            Calls.bound(0, 1, "0", "POP"), Calls.bound(0, 2, "8", "PUSH 1"), Calls.bound(1, 0, "1", "FIRE 1"),
            "press(8) = 0; press(0) = 0; press(1) = 0; press(5) = 2;", Calls.reports(0, "UNBOUND 1, UNBOUND 5"));
        runs.check("8 active is determined at the moment when it matters: the waited-for binding is active no more",
            Calls.boundIf(0, 0, 0, 0, "0 1", "FIRE 1"), "press(0) = 0; setFlag(0, 1) = 0; press(1) = 2;",
            Calls.reports(0, "UNBOUND 0, UNBOUND 1"));
        runs.check("8 active is determined at the moment when it matters: the waited-for binding is gone", LADDER,
            "press(0) = 0; press(1) = 0; press(2) = 0; unbind(0, 0) = 3; press(3) = 2;",
            Calls.reports(0, "FIRED 3, UNBOUND 3"));
        runs.check("8 active is determined at the moment when it matters: a binding has come", LADDER, "press(0) = 0;",
            Calls.bound(0, 4, "0 5", "FIRE 50"), "press(5) = 1;", Calls.reports(0, "FIRED 50"));
    }

    private static void tick(Runs runs) {
        runs.check("9 ticks: 0 to 999", LADDER, "tick(0) = 0; tick(999) = 0; press(0) = 0; tick(0) = 0;",
            "remainingTime() = 10; tick(999) = 1");
        runs.check("9 INVALID_ARGUMENT if ticks is out of range", LADDER, "press(0) = 0;",
            Calls.outside("tick(%)", 0, 999), "remainingTime() = 10; pendingLength() = 1; reportCount() = 0");
        runs.check("9 With each tick, if p is not empty: an empty one loses no time", LADDER, "tick(7) = 0;",
            "press(0) = 0; remainingTime() = 10");
        runs.check("9 the remaining time is reduced by 1", LADDER, "press(0) = 0; tick(1) = 0; remainingTime() = 9;",
            "tick(2) = 0; remainingTime() = 7");
        runs.check("9 if it becomes 0, p times out: not with 9 ticks", LADDER, "press(0) = 0; tick(9) = 0;",
            "remainingTime() = 1; pendingLength() = 1");
        runs.check("9 if it becomes 0, p times out: with 10 ticks", LADDER, "press(0) = 0; tick(10) = 1;",
            "remainingTime() = 0; pendingLength() = 0");
        runs.check("9 if it becomes 0, p times out: with the tenth single tick", LADDER, "press(0) = 0;",
            Runs.times(9, "tick(1) = 0"), "tick(1) = 1");
        runs.check("9 Returns the number of reports made by this call: only once", LADDER, "press(0) = 0;",
            "tick(999) = 1; tick(999) = 0; reportCount() = 1");
    }

    private static void timeOut(Runs runs) {
        runs.check("9 if there is a binding for p, p becomes empty and its action is performed: 1 key", LADDER,
            "press(0) = 0; tick(10) = 1;", Calls.reports(0, "FIRED 1"));
        runs.check("9 if there is a binding for p, p becomes empty and its action is performed: 3 keys", LADDER,
            Calls.pressed(0, "0 1 2"), "tick(10) = 1;", Calls.reports(0, "FIRED 3"));
        runs.check("9 otherwise the interpreter falls back: 2 of 3 keys", LADDER, "unbind(0, 1) = 3;",
            Calls.pressed(0, "0 1 2"), "tick(10) = 2;", Calls.reports(0, "FIRED 2, UNBOUND 2"));
        runs.check("9 otherwise the interpreter falls back: 1 of 3 keys", LADDER, "unbind(0, 1) = 3; unbind(0, 1) = 2;",
            Calls.pressed(0, "0 1 2"), "tick(10) = 3;", Calls.reports(0, "FIRED 1, UNBOUND 1, UNBOUND 2"));
        runs.check("9 otherwise the interpreter falls back: the only key is unbound",
            Calls.bound(0, 0, "0 1", "FIRE 1"), "press(0) = 0; tick(10) = 1;", Calls.reports(0, "UNBOUND 0"));
        runs.check("9 otherwise the interpreter falls back: though p could still be extended", THREE_PENDING,
            "tick(10) = 1;", Calls.reports(0, "UNBOUND 0"), "pendingLength() = 2; remainingTime() = 10");
        runs.check("9 a binding that is active no more when the time is over", Calls.boundIf(0, 0, 0, 0, "0", "FIRE 1"),
            Calls.bound(0, 1, "0 1", "FIRE 2"), "press(0) = 0; tick(9) = 0; setFlag(0, 1) = 0; tick(1) = 1;",
            Calls.reports(0, "UNBOUND 0"));
    }

    private static void manyTimeouts(Runs runs) {
        runs.check("9 what is processed again waits for a whole timeout: 19 ticks", THREE_PENDING, "tick(19) = 1;",
            "pendingLength() = 2; remainingTime() = 1");
        runs.check("9 what is processed again waits for a whole timeout: 20 ticks", THREE_PENDING, "tick(20) = 2;",
            "pendingLength() = 1; remainingTime() = 10");
        runs.check("9 what is processed again waits for a whole timeout: 30 ticks", THREE_PENDING, "tick(29) = 2;",
            "tick(1) = 1; pendingLength() = 0");
        runs.check("9 a timeout set in between holds for what waits after it", THREE_PENDING, "setTimeout(1) = 10;",
            "tick(10) = 1; remainingTime() = 1; tick(2) = 2; pendingLength() = 0");
        // Each timeout plays a macro that leaves the same key pending again.
        String again = Calls.recorded(0, "0") + Calls.bound(0, 0, "0", "PLAY 0") + Calls.bound(0, 1, "0 1", "FIRE 1");
        runs.check("9 999 ticks of the longest timeout", again, "setTimeout(99) = 10; press(0) = 0; tick(999) = 0;",
            "pendingLength() = 1; remainingTime() = 90; reportCount() = 1");
        runs.check("9 if 20 macros have been played already within the present call of tick", again,
            "setTimeout(1) = 10; press(0) = 0; tick(20) = 0; pendingLength() = 1; tick(20) = 0; pendingLength() = 1;",
            "tick(21) = 1; pendingLength() = 0; reportKind(1) = 2; reportArgument(1) = 0");
        runs.check("9 if 20 macros have been played already: 999 ticks", again, "setTimeout(1) = 10; press(0) = 0;",
            "tick(999) = 1; pendingLength() = 0");
    }

    private static void setTimeout(Runs runs) {
        runs.check("10 ticks: 1 to 99", "setTimeout(1) = 10; setTimeout(99) = 1; setTimeout(98) = 99;",
            "setTimeout(2) = 98");
        runs.check("10 INVALID_ARGUMENT if ticks is out of range", Calls.outside("setTimeout(%)", 1, 99),
            "setTimeout(10) = 10");
        runs.check("10 Returns the previous timeout", "setTimeout(7) = 10; setTimeout(7) = 7; setTimeout(8) = 7");
        runs.check("10 The remaining time of a pending sequence is not affected: shorter", LADDER, "press(0) = 0;",
            "tick(5) = 0; setTimeout(1) = 10; remainingTime() = 5; tick(4) = 0; tick(1) = 1");
        runs.check("10 The remaining time of a pending sequence is not affected: longer", LADDER, "press(0) = 0;",
            "tick(5) = 0; setTimeout(99) = 10; remainingTime() = 5; tick(4) = 0; tick(1) = 1");
        runs.check("10 The remaining time of an empty sequence stays 0", "setTimeout(99) = 10; remainingTime() = 0");
        runs.check("10 the shortest timeout", LADDER, "setTimeout(1) = 10; press(0) = 0; remainingTime() = 1;",
            "tick(0) = 0; tick(1) = 1");
        runs.check("10 the longest timeout", LADDER, "setTimeout(99) = 10; press(0) = 0; remainingTime() = 99;",
            "tick(98) = 0; remainingTime() = 1; tick(1) = 1");
    }

    private static void setFlag(Runs runs) {
        runs.check("11 flag: 0 to 5", Calls.each("setFlag(%, 1) = 0; flag(%) = 1", 0, 5),
            Calls.each("setFlag(%, 0) = 1; flag(%) = 0", 0, 5));
        runs.check("11 INVALID_ARGUMENT if the flag is out of range", Calls.outside("setFlag(%, 1)", 0, 5),
            Calls.outside("setFlag(%, 0)", 0, 5), Calls.each("flag(%) = 0", 0, 5));
        runs.check("11 value: 0 or 1", "setFlag(3, 0) = 0; setFlag(3, 1) = 0; setFlag(3, 1) = 1; setFlag(3, 0) = 1;",
            "setFlag(3, 0) = 0");
        runs.check("11 INVALID_ARGUMENT if the value is out of range", "setFlag(0, 1) = 0;",
            Calls.outside("setFlag(0, %)", 0, 1), Calls.outside("setFlag(5, %)", 0, 1), "flag(0) = 1; flag(5) = 0");
        runs.check("11 INVALID_ARGUMENT if both are out of range", "setFlag(6, 2) = -1; setFlag(-1, -1) = -1");
        runs.check("11 one flag is set and no other", "setFlag(0, 1) = 0; flag(0) = 1;",
            Calls.each("flag(%) = 0", 1, 5), "setFlag(5, 1) = 0; setFlag(0, 0) = 1; flag(5) = 1;",
            Calls.each("flag(%) = 0", 0, 4));
        String conditional = Calls.boundIf(0, 0, 0, 0, "0 1", "FIRE 2");
        runs.check("11 The pending sequence is not settled by this: it is no longer extensible", conditional,
            "press(0) = 0; tick(3) = 0; setFlag(0, 1) = 0; pendingLength() = 1; remainingTime() = 7;",
            "reportCount() = 0; tick(6) = 0; tick(1) = 1;", Calls.reports(0, "UNBOUND 0"));
        runs.check("11 The pending sequence is not settled by this: it is extensible again", conditional,
            "press(0) = 0; tick(3) = 0; setFlag(0, 1) = 0; setFlag(0, 0) = 1; remainingTime() = 7; press(1) = 1;",
            Calls.reports(0, "FIRED 2"));
    }

    private static void pendingSequence(Runs runs) {
        runs.check("12 the length of the pending sequence: 0 to 3", LADDER, "pendingLength() = 0; press(0) = 0;",
            "pendingLength() = 1; press(1) = 0; pendingLength() = 2; press(2) = 0; pendingLength() = 3;",
            "press(3) = 1; pendingLength() = 0");
        runs.check("13 Returns the key", Calls.bound(0, 0, "11 0 11 0", "FIRE 1"), Calls.pressed(0, "11 0 11"),
            "pendingKey(0) = 11; pendingKey(1) = 0; pendingKey(2) = 11");
        runs.check("13 INVALID_ARGUMENT if index is negative", LADDER, Calls.pressed(0, "0 1 2"),
            Calls.below("pendingKey(%)", 0));
        runs.check("13 INVALID_ARGUMENT rather than NOT_FOUND: nothing is pending", Calls.below("pendingKey(%)", 0));
        runs.check("13 NOT_FOUND if there is no such key: nothing is pending", "pendingKey(0) = -4;",
            "pendingKey(3) = -4; pendingKey(4) = -4;", "pendingKey(" + Integer.MAX_VALUE + ") = -4");
        runs.check("13 NOT_FOUND if there is no such key: right behind the last", LADDER, "press(0) = 0;",
            "pendingKey(1) = -4; press(1) = 0;",
            "pendingKey(2) = -4; press(2) = 0; pendingKey(3) = -4; pendingKey(4) = -4;",
            "pendingKey(" + Integer.MAX_VALUE + ") = -4");
        runs.check("13 NOT_FOUND if there is no such key: the sequence was longer before", THREE_PENDING,
            "tick(10) = 1; pendingKey(1) = 0; pendingKey(2) = -4; tick(20) = 2; pendingKey(0) = -4");
    }

    private static void remainingTime(Runs runs) {
        runs.check("14 the remaining time of the pending sequence", LADDER, "press(0) = 0; remainingTime() = 10;",
            "tick(9) = 0; remainingTime() = 1");
        runs.check("14 0 if it is empty: at first", "remainingTime() = 0");
        runs.check("14 0 if it is empty: its binding was performed", LADDER, Calls.pressed(0, "0 1 2"),
            "press(3) = 1; remainingTime() = 0");
        runs.check("14 0 if it is empty: it fell back", LADDER, Calls.pressed(0, "0 1 2"), "press(5) = 2;",
            "remainingTime() = 0");
        runs.check("14 0 if it is empty: its time is over", LADDER, "press(0) = 0; tick(999) = 1; remainingTime() = 0");
    }

    private static void pendingBinding(Runs runs) {
        runs.check("15 16 times the context plus the number: the least", Calls.bound(0, 0, "0", "FIRE 1"),
            Calls.bound(0, 1, "0 1", "FIRE 2"), "press(0) = 0; pendingBinding() = 0");
        runs.check("15 16 times the context plus the number: the greatest", Calls.bound(0, 0, "9", "PUSH 3"),
            Calls.each("appendKey(0) = 1; appendKey(1) = 2; bind(3, -1, 0, 0, 1) = #", 0, 8),
            Calls.bound(3, 9, "0", "FIRE 2"), "press(9) = 0; press(0) = 0; pendingBinding() = 57");
        runs.check("15 at this moment", LADDER, "press(0) = 0; pendingBinding() = 3; unbind(0, 0) = 3;",
            "pendingBinding() = 2; unbind(0, 2) = 2; pendingBinding() = -4;", Calls.boundIf(2, 1, 0, 2, "0", "FIRE 1"),
            "pendingBinding() = -4; setFlag(2, 1) = 0; pendingBinding() = 2");
        runs.check("15 NOT_FOUND if there is none", Calls.bound(0, 0, "0 1 2 3", "FIRE 1"), "press(0) = 0;",
            "pendingBinding() = -4; press(1) = 0; pendingBinding() = -4; press(2) = 0; pendingBinding() = -4");
        runs.check("15 NOT_FOUND if the pending sequence is empty", LADDER, "pendingBinding() = -4; press(0) = 0;",
            "tick(10) = 1; pendingBinding() = -4");
    }
}
