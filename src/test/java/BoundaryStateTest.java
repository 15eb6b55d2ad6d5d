/**
 * The document's sentences that name a boundary of actions, flags, the context stack, macros and reports (promises
 * 16 to 24), a check each. A check's name is the promise's number and the document's words.
 */
public final class BoundaryStateTest {
    private static final String MAX = "" + Integer.MAX_VALUE;
    /** Keys 0 to 3 play their macro. */
    private static final String PLAYS = Calls.each("appendKey(%) = 1; bind(0, -1, 0, 1, %) = #", 0, 3);
    /** Key 0 plays macro 0, whose key 1 plays macro 1, and so on up to macro 3, whose key 9 has no binding. */
    private static final String CHAIN = Calls.recorded(0, "1") + Calls.recorded(1, "2") + Calls.recorded(2, "3")
        + Calls.recorded(3, "9") + PLAYS;
    /** Keys 0 to 3 push their context, key 4 pops. */
    private static final String PUSHES = Calls.each("appendKey(%) = 1; bind(0, -1, 0, 2, %) = #", 0, 3)
        + Calls.bound(0, 4, "4", "POP");

    public static void main(String[] args) {
        Runs runs = new Runs();
        actions(runs);
        nothingElse(runs);
        refusedMoves(runs);
        playNested(runs);
        playEnds(runs);
        playTwenty(runs);
        playRecorded(runs);
        flag(runs);
        stack(runs);
        startRecording(runs);
        stopRecording(runs);
        recordedKeys(runs);
        macroKey(runs);
        reportCount(runs);
        reports(runs);
        latestReports(runs);
        runs.end();
    }

    private static void actions(Runs runs) {
        runs.check("8 FIRE n reports FIRED n: 0 and 99", Calls.bound(0, 0, "0", "FIRE 0"),
            Calls.bound(0, 1, "1", "FIRE 99"), Calls.pressed(1, "0 1"), Calls.reports(0, "FIRED 0, FIRED 99"));
        runs.check("8 SET f gives flag f the value 1: 0 and 5", Calls.bound(0, 0, "0", "SET 0"),
            Calls.bound(0, 1, "1", "SET 5"), Calls.pressed(0, "0 0 1"), "flag(0) = 1; flag(5) = 1;",
            Calls.each("flag(%) = 0", 1, 4));
        runs.check("8 CLEAR f gives flag f the value 0: 0 and 5", Calls.each("setFlag(%, 1) = 0", 0, 5),
            Calls.bound(0, 0, "0", "CLEAR 0"), Calls.bound(0, 1, "1", "CLEAR 5"), Calls.pressed(0, "0 0 1"),
            "flag(0) = 0; flag(5) = 0;", Calls.each("flag(%) = 1", 1, 4));
        runs.check("8 SET, CLEAR, PUSH, POP and PLAY report nothing if they are not refused",
            Calls.bound(0, 0, "0", "SET 1"), Calls.bound(0, 1, "1", "CLEAR 1"), Calls.bound(0, 2, "2", "PUSH 1"),
            Calls.bound(0, 3, "3", "POP"), Calls.bound(0, 4, "4", "PLAY 1"), Calls.pressed(0, "0 1 2 3 4"),
            "reportCount() = 0");
    }

    private static void nothingElse(Runs runs) {
        String macros = Calls.recorded(0, "9") + Calls.recorded(1, "9");
        String flags = Calls.each("flag(%) = 0", 0, 5);
        runs.check("8 FIRE does nothing but report", macros, Calls.bound(0, 0, "0", "FIRE 0"),
            Calls.bound(0, 1, "1", "FIRE 1"), Calls.pressed(1, "0 1"), "reportCount() = 4; stackSize() = 1;",
            "pendingLength() = 0;", flags);
        runs.check("8 PLAY does nothing but play", macros, Calls.bound(0, 0, "0", "PLAY 0"),
            Calls.bound(0, 1, "1", "PLAY 1"), Calls.pressed(1, "0 1"), "reportCount() = 4; stackSize() = 1;",
            "pendingLength() = 0;", flags);
        runs.check("8 PUSH does nothing but push", macros, PUSHES, Calls.pressed(0, "0 1"), "reportCount() = 2;",
            "stackSize() = 3; pendingLength() = 0;", flags);
        runs.check("8 POP does nothing but remove the top", macros, PUSHES, Calls.pressed(0, "1 1 4"),
            "reportCount() = 2; stackSize() = 2; stackContext(0) = 1; pendingLength() = 0;", flags);
        runs.check("8 SET and CLEAR do nothing but give the value", macros, Calls.bound(0, 0, "0", "SET 1"),
            Calls.bound(0, 1, "1", "CLEAR 1"), "press(0) = 0; flag(1) = 1; press(1) = 0; reportCount() = 2;",
            "stackSize() = 1; pendingLength() = 0;", flags);
    }

    private static void refusedMoves(Runs runs) {
        runs.check("8 PUSH c is refused if the context stack contains 4 contexts", PUSHES, Calls.pressed(0, "1 2 3"),
            Calls.pressed(1, "0 1 2 3"), Calls.reports(0, "REFUSED 0, REFUSED 1, REFUSED 2, REFUSED 3"),
            "stackSize() = 4; stackContext(0) = 3; stackContext(3) = 0");
        runs.check("8 PUSH c is not refused with 3 contexts", PUSHES, Calls.pressed(0, "1 2"), "stackSize() = 3;",
            "press(3) = 0; stackSize() = 4");
        runs.check("8 and POP if it contains 1", PUSHES, "press(4) = 1;", Calls.reports(0, "REFUSED 0"),
            "stackSize() = 1; stackContext(0) = 0");
        runs.check("8 POP is not refused with 2 contexts", PUSHES, "press(3) = 0; press(4) = 0; stackSize() = 1;",
            "stackContext(0) = 0; reportCount() = 0");
        runs.check("8 from 4 contexts down to 1 and up again", PUSHES, Calls.pressed(0, "3 2 1 4 4 4"), "press(4) = 1;",
            Calls.pressed(0, "1 1 1"), "press(1) = 1;", Calls.reports(0, "REFUSED 0, REFUSED 1"), "stackSize() = 4");
        runs.check("8 A refused action reports REFUSED and does nothing else: the rest is processed", PUSHES,
            Calls.bound(0, 5, "4 5", "FIRE 1"), "press(4) = 0; press(6) = 2;", Calls.reports(0, "REFUSED 0, UNBOUND 6"),
            "stackSize() = 1; pendingLength() = 0");
    }

    private static void playNested(Runs runs) {
        runs.check("8 if 3 macros are being played already, one inside the other: the fourth", CHAIN, "press(0) = 1;",
            "reportCount() = 5; reportKind(4) = 2; reportArgument(4) = 3");
        runs.check("8 if 3 macros are being played already, one inside the other: the third is played", CHAIN,
            "press(1) = 1; reportCount() = 5; reportKind(4) = 1; reportArgument(4) = 9");
        runs.check("8 one inside the other: not one after the other", Calls.recorded(0, Calls.keys(12, 1)),
            Calls.recorded(1, "9"), Calls.bound(0, 0, "0", "PLAY 0"), Calls.bound(0, 1, "1", "PLAY 1"),
            "press(0) = 12; reportKind(13) = 1; reportKind(24) = 1");
        runs.check("8 one inside the other: the same macro in itself", Calls.recorded(0, "0 5"),
            Calls.bound(0, 0, "0", "PLAY 0"), "press(0) = 4; reportKind(2) = 2; reportArgument(2) = 0;",
            "reportKind(3) = 1; reportArgument(3) = 5; reportKind(4) = 1; reportKind(5) = 1");
        runs.check("8 a refused macro ends nothing: the next one is refused too", Calls.recorded(0, "1"),
            Calls.recorded(1, "2"), Calls.recorded(2, "3 3"), Calls.bound(0, 0, "0", "PLAY 0"),
            Calls.bound(0, 1, "1", "PLAY 1"), Calls.bound(0, 2, "2", "PLAY 2"), Calls.bound(0, 3, "3", "PLAY 3"),
            "press(0) = 2; reportKind(4) = 2; reportKind(5) = 2; reportArgument(5) = 3");
        runs.check("8 a macro that has ended makes room inside the others", Calls.recorded(0, "1 1"),
            Calls.recorded(1, "2 2"), Calls.recorded(2, "3"), Calls.bound(0, 0, "0", "PLAY 0"),
            Calls.bound(0, 1, "1", "PLAY 1"), Calls.bound(0, 2, "2", "PLAY 2"), Calls.bound(0, 3, "3", "FIRE 3"),
            "press(0) = 4; reportKind(5) = 0; reportKind(6) = 0; reportKind(7) = 0; reportKind(8) = 0");
    }

    private static void playEnds(Runs runs) {
        String again = Calls.recorded(0, "5 1") + Calls.recorded(1, "5 2") + Calls.recorded(2, "5 3")
            + Calls.recorded(3, "9") + PLAYS + Calls.bound(0, 4, "5 6", "FIRE 6");
        runs.check("8 being played until its last key has been processed, with all that is processed again by this",
            again, "press(0) = 4; reportArgument(7) = 5; reportArgument(8) = 5; reportArgument(9) = 5;",
            "reportKind(10) = 2; reportArgument(10) = 3");
        // Macro 2 leaves key 3 pending; key 7 behind it plays macro 3 and with it the chain again, whose fourth is macro 2.
        String leaves = Calls.recorded(0, "1") + Calls.recorded(1, "2") + Calls.recorded(2, "3") + Calls.recorded(3, "0")
            + Calls.each("appendKey(%) = 1; bind(0, -1, 0, 1, %) = #", 0, 2) + Calls.bound(0, 3, "3 7", "PLAY 3")
            + Calls.bound(0, 4, "8", "PLAY 0") + Calls.bound(0, 5, "8 9", "FIRE 9");
        runs.check("8 what it leaves pending is not part of it: in the next call", leaves, "press(0) = 0;",
            "pendingKey(0) = 3; press(7) = 1; reportKind(4) = 2; reportArgument(4) = 2");
        runs.check("8 what it leaves pending is not part of it: in the same call", leaves, "press(8) = 0;",
            "press(7) = 1; reportKind(4) = 2; reportArgument(4) = 2; pendingLength() = 0");
        runs.check("9 what it leaves pending is not part of it: when its time is over", leaves,
            Calls.bound(0, 6, "3", "PLAY 3"), "press(0) = 0; tick(10) = 1; reportKind(4) = 2; reportArgument(4) = 2");
    }

    private static void playTwenty(Runs runs) {
        // Key 2 plays macro 2, that plays macro 0 once, and macro 0 plays macro 1 twelve times.
        String parts = Calls.recorded(0, Calls.keys(12, 1)) + Calls.recorded(1, "9");
        String twenty = parts + Calls.recorded(2, "0 1 1 1 1 1 1") + PLAYS;
        runs.check("8 if 20 macros have been played already: the twentieth is played", twenty, "press(2) = 18;",
            "reportCount() = 38;", Calls.each("reportKind(%) = 1", 20, 37));
        String twentyOne = parts + Calls.recorded(2, "0 1 1 1 1 1 1 1 8") + PLAYS;
        runs.check("8 if 20 macros have been played already: the twenty-first is refused", twentyOne, "press(2) = 20;",
            Calls.each("reportKind(%) = 1", 22, 39), "reportKind(40) = 2; reportArgument(40) = 1;",
            "reportKind(41) = 1; reportArgument(41) = 8");
        runs.check("8 within the present call of press: the next one counts anew", twenty, "press(2) = 18;",
            "press(2) = 18; press(1) = 1; reportKind(56) = 1");
        runs.check("8 refused ones are not counted: the recorded macro", parts,
            Calls.recorded(2, "3 3 3 0 1 1 1 1 1 1 1"), PLAYS, "startRecording(3) = 0; press(2) = 22;",
            "reportKind(24) = 2; reportArgument(24) = 3; reportKind(26) = 2; reportKind(27) = 1; reportKind(44) = 1;",
            "reportKind(45) = 2; reportArgument(45) = 1");
        // Macro 2 is the third inside the others, so its twelve keys are refused; if they were counted, the last of
        // macro 0 would be refused too.
        runs.check("8 refused ones are not counted: three inside one another", Calls.recorded(0, "1 3 3 3 3 3 3 3"),
            Calls.recorded(1, "2"), Calls.recorded(2, Calls.keys(12, 3)), Calls.recorded(3, "9"), PLAYS,
            "press(0) = 19;", Calls.each("reportKind(%) = 2", 22, 33), Calls.each("reportKind(%) = 1", 34, 40));
    }

    private static void playRecorded(Runs runs) {
        String play = Calls.bound(0, 0, "0", "PLAY 0") + Calls.bound(0, 1, "3", "PLAY 3");
        runs.check("8 PLAY m is refused if macro m is being recorded: 0", play, "startRecording(0) = 0; press(0) = 1;",
            Calls.reports(0, "REFUSED 0"));
        runs.check("8 PLAY m is refused if macro m is being recorded: 3", play, "startRecording(3) = 0; press(3) = 1;",
            Calls.reports(0, "REFUSED 3"));
        runs.check("8 if macro m is being recorded: not if another one is", Calls.recorded(3, "9"), play,
            "startRecording(0) = 0; press(3) = 1;", Calls.reports(0, "UNBOUND 9, UNBOUND 9"));
        runs.check("8 if macro m is being recorded: not if that is over", play, "startRecording(0) = 0;",
            "press(9) = 1; stopRecording() = 1; press(0) = 1;", Calls.reports(0, "UNBOUND 9, UNBOUND 9"));
        runs.check("8 if macro m is being recorded: inside another one", play, "startRecording(3) = 0; press(0) = 0;",
            "stopRecording() = 1; startRecording(0) = 0; press(3) = 1;", Calls.reports(0, "REFUSED 0"));
        runs.check("8 several reasons make one report", Calls.recorded(1, "2"), Calls.recorded(2, "4"),
            Calls.recorded(3, "0"), play, Calls.bound(0, 2, "1", "PLAY 1"), Calls.bound(0, 3, "2", "PLAY 2"),
            Calls.bound(0, 4, "4", "PLAY 3"), "startRecording(0) = 0; press(1) = 1; reportKind(3) = 2;",
            "reportArgument(3) = 0");
        runs.check("8 the keys that the macro has at that moment: none", play, "press(0) = 0; reportCount() = 0;",
            "pendingLength() = 0");
        runs.check("8 the keys that the macro has at that moment: 12", Calls.recorded(0, "5 6 5 6 5 6 5 6 5 6 5 7"),
            play, "press(0) = 12; reportArgument(12) = 5; reportArgument(13) = 6; reportArgument(22) = 5;",
            "reportArgument(23) = 7");
        runs.check("8 the keys that the macro has at that moment: not those that it had", Calls.recorded(0, "5 6 7"),
            play, "startRecording(0) = 3; press(8) = 1; stopRecording() = 1; press(0) = 1;",
            Calls.reports(3, "UNBOUND 8, UNBOUND 8"));
    }

    private static void flag(Runs runs) {
        runs.check("16 flag: 0 to 5", Calls.each("flag(%) = 0; setFlag(%, 1) = 0; flag(%) = 1", 0, 5));
        runs.check("16 INVALID_ARGUMENT if flag is out of range", Calls.each("setFlag(%, 1) = 0", 0, 5),
            Calls.outside("flag(%)", 0, 5));
    }

    private static void stack(Runs runs) {
        runs.check("17 The context stack contains 1 to 4 contexts", PUSHES, "stackSize() = 1; press(1) = 0;",
            "stackSize() = 2; press(1) = 0; stackSize() = 3; press(1) = 0; stackSize() = 4; press(1) = 1;",
            "stackSize() = 4");
        runs.check("17 a context may occur several times: 4 times", PUSHES, Calls.pressed(0, "0 0 0"),
            "stackSize() = 4;", Calls.each("stackContext(%) = 0", 0, 3));
        runs.check("17 a context may occur several times: it stays active when one is removed", PUSHES,
            Calls.bound(2, 0, "9", "FIRE 2"), Calls.pressed(0, "2 2 4"), "press(9) = 1; press(4) = 0; press(9) = 1;",
            Calls.reports(0, "FIRED 2, UNBOUND 9"));
        runs.check("18 depth: 0 for the top, 1 for the context below it, and so on", PUSHES, Calls.pressed(0, "3 2 1"),
            "stackContext(0) = 1; stackContext(1) = 2; stackContext(2) = 3; stackContext(3) = 0");
        runs.check("18 INVALID_ARGUMENT if depth is negative", Calls.below("stackContext(%)", 0));
        runs.check("18 NOT_FOUND if there is no such context: of 1",
            "stackContext(0) = 0; stackContext(1) = -4; stackContext(3) = -4; stackContext(" + MAX + ") = -4");
        runs.check("18 NOT_FOUND if there is no such context: of 4", PUSHES, Calls.pressed(0, "1 2 3"),
            "stackContext(3) = 0; stackContext(4) = -4;", "stackContext(" + MAX + ") = -4;",
            Calls.below("stackContext(%)", 0));
        runs.check("18 NOT_FOUND if there is no such context: it has been removed", PUSHES, Calls.pressed(0, "1 2 4"),
            "stackContext(0) = 1; stackContext(1) = 0; stackContext(2) = -4");
    }

    private static void startRecording(Runs runs) {
        runs.check("19 macro: 0 to 3",
            Calls.each("startRecording(%) = 0; press(9) = 1; stopRecording() = 1; macroKey(%, 0) = 9", 0, 3));
        runs.check("19 INVALID_ARGUMENT if macro is out of range", Calls.outside("startRecording(%)", 0, 3),
            "stopRecording() = -2");
        runs.check("19 INVALID_STATE if a macro is being recorded", "startRecording(1) = 0; press(9) = 1;",
            Calls.each("startRecording(%) = -2", 0, 3), "macroKey(1, 0) = 9; press(8) = 1; stopRecording() = 2;",
            "macroKey(1, 1) = 8");
        runs.check("19 INVALID_ARGUMENT is returned rather than INVALID_STATE", "startRecording(1) = 0;",
            Calls.outside("startRecording(%)", 0, 3));
        runs.check("19 Returns the length that the macro had: 0, 1 and 12", "startRecording(2) = 0;",
            "stopRecording() = 0; startRecording(2) = 0; press(9) = 1; stopRecording() = 1; startRecording(2) = 1;",
            Calls.pressed(1, Calls.keys(12, 9)), "stopRecording() = 12; startRecording(2) = 12");
        runs.check("19 which becomes empty", Calls.recorded(0, Calls.keys(12, 9)), "startRecording(0) = 12;",
            Calls.each("macroKey(0, %) = -4", 0, 12), "press(8) = 1; stopRecording() = 1; macroKey(0, 0) = 8;",
            "macroKey(0, 1) = -4");
        runs.check("19 which becomes empty: and no other", Calls.recorded(0, "7"), Calls.recorded(2, "8"),
            Calls.recorded(3, "9"), "startRecording(1) = 0; macroKey(0, 0) = 7; macroKey(2, 0) = 8;",
            "macroKey(3, 0) = 9");
    }

    private static void stopRecording(Runs runs) {
        runs.check("20 Returns the length of the recorded macro: 0", "startRecording(0) = 0; stopRecording() = 0");
        runs.check("20 Returns the length of the recorded macro: 12", "startRecording(3) = 0;",
            Calls.pressed(1, Calls.keys(12, 9)), "stopRecording() = 12");
        runs.check("20 INVALID_STATE if no macro is being recorded", "stopRecording() = -2; startRecording(0) = 0;",
            "stopRecording() = 0; stopRecording() = -2");
        runs.check("20 Stops the recording", Calls.recorded(0, "9"), "press(8) = 1; macroKey(0, 1) = -4;",
            "startRecording(1) = 0; press(7) = 1; macroKey(0, 1) = -4; macroKey(1, 0) = 7");
    }

    private static void recordedKeys(Runs runs) {
        runs.check("20 unless the macro has 12 keys already: the twelfth", "startRecording(0) = 0;",
            Calls.pressed(1, Calls.keys(11, 9)), "press(8) = 1; macroKey(0, 11) = 8; macroKey(0, 12) = -4;",
            "stopRecording() = 12");
        runs.check("20 unless the macro has 12 keys already: the thirteenth is only processed",
            Calls.bound(0, 0, "8", "FIRE 8"), "startRecording(0) = 0;", Calls.pressed(1, Calls.keys(12, 9)),
            "press(8) = 1; reportKind(12) = 0; macroKey(0, 11) = 9; macroKey(0, 12) = -4; stopRecording() = 12");
        runs.check("20 unless the macro has 12 keys already: it is still being recorded",
            Calls.bound(0, 0, "0", "PLAY 0"), "startRecording(0) = 0;", Calls.pressed(1, Calls.keys(14, 9)),
            "press(0) = 1; reportKind(14) = 2; startRecording(1) = -2; stopRecording() = 12");
        runs.check("20 each key that is pressed: a key out of range is not", "startRecording(0) = 0;",
            Calls.outside("press(%)", 0, 11), "macroKey(0, 0) = -4; stopRecording() = 0");
        runs.check("20 each key that is pressed: whatever it does", Calls.bound(0, 0, "0 1", "FIRE 1"),
            Calls.bound(0, 1, "2", "PLAY 0"), "startRecording(0) = 0; press(0) = 0; press(2) = 2; press(11) = 1;",
            "stopRecording() = 3; macroKey(0, 0) = 0; macroKey(0, 1) = 2; macroKey(0, 2) = 11");
        runs.check("20 Keys that are played are not recorded", Calls.recorded(0, "7 8 9"),
            Calls.bound(0, 0, "0", "PLAY 0"), "startRecording(1) = 0; press(0) = 3; stopRecording() = 1;",
            "macroKey(1, 0) = 0");
        runs.check("20 Keys that are processed again are not recorded", Calls.bound(0, 0, "0 0 0 1", "FIRE 1"),
            "startRecording(1) = 0;", Calls.pressed(0, "0 0 0"), "press(5) = 4; stopRecording() = 4;",
            "macroKey(1, 3) = 5");
        runs.check("20 keys processed again by tick are not recorded", Calls.bound(0, 0, "0 0 0 1", "FIRE 1"),
            "startRecording(1) = 0;", Calls.pressed(0, "0 0 0"), "tick(30) = 3; stopRecording() = 3");
    }

    private static void macroKey(Runs runs) {
        String full = Calls.recorded(0, "0 1 2 3 4 5 6 7 8 9 10 11");
        runs.check("21 Returns the key", full, Calls.each("macroKey(0, %) = %", 0, 11));
        runs.check("21 INVALID_ARGUMENT if macro is out of range", full, Calls.outside("macroKey(%, 0)", 0, 3));
        runs.check("21 or index is negative", full, Calls.below("macroKey(0, %)", 0));
        runs.check("21 INVALID_ARGUMENT is returned rather than NOT_FOUND", Calls.below("macroKey(3, %)", 0),
            Calls.outside("macroKey(%, 12)", 0, 3), Calls.outside("macroKey(%, -1)", 0, 3));
        runs.check("21 NOT_FOUND if there is no such key: of none",
            Calls.each("macroKey(%, 0) = -4; macroKey(%, 11) = -4; macroKey(%, " + MAX + ") = -4", 0, 3));
        runs.check("21 NOT_FOUND if there is no such key: of 1", Calls.recorded(3, "9"), "macroKey(3, 0) = 9;",
            "macroKey(3, 1) = -4");
        runs.check("21 NOT_FOUND if there is no such key: of 12", full,
            "macroKey(0, 12) = -4; macroKey(0, 13) = -4; macroKey(0, " + MAX + ") = -4");
        runs.check("21 a key of the macro that is being recorded", "startRecording(2) = 0; macroKey(2, 0) = -4;",
            "press(6) = 1; macroKey(2, 0) = 6");
    }

    private static void reportCount(Runs runs) {
        runs.check("22 the number of all reports: none", "reportCount() = 0; tick(999) = 0; press(12) = -1;",
            "reportCount() = 0");
        runs.check("22 the number of all reports: more than can be read", Runs.times(39, "press(9) = 1"),
            "reportCount() = 39; press(9) = 1; reportCount() = 40; press(9) = 1; reportCount() = 41;",
            Runs.times(41, "press(9) = 1"), "reportCount() = 82");
    }

    private static void reports(Runs runs) {
        runs.check("23 Reports are numbered from 0 in their order", Calls.bound(0, 0, "0", "FIRE 99"),
            Calls.bound(0, 1, "1", "POP"), Calls.pressed(1, "1 0 11 0"),
            Calls.reports(0, "REFUSED 0, FIRED 99, UNBOUND 11, FIRED 99"));
        runs.check("23 INVALID_ARGUMENT if report is negative", "press(9) = 1;", Calls.below("reportKind(%)", 0));
        runs.check("23 INVALID_ARGUMENT is returned rather than NOT_FOUND: without reports",
            Calls.below("reportKind(%)", 0));
        runs.check("23 NOT_FOUND if there is no such report", "reportKind(0) = -4; press(9) = 1; reportKind(0) = 1;",
            "reportKind(1) = -4;", "reportKind(39) = -4; reportKind(40) = -4; reportKind(" + MAX + ") = -4");
        runs.check("24 Returns its argument: the command", Calls.bound(0, 0, "0", "FIRE 0"),
            Calls.bound(0, 1, "1", "FIRE 99"), Calls.pressed(1, "0 1"), "reportArgument(0) = 0;",
            "reportArgument(1) = 99");
        runs.check("24 Returns its argument: the key", "press(0) = 1; press(11) = 1; reportArgument(0) = 0;",
            "reportArgument(1) = 11");
        runs.check("24 Returns its argument: the argument of the refused action", PUSHES, "press(4) = 1;",
            Calls.pressed(0, "1 1 1"), "press(3) = 1;", Calls.bound(0, 5, "5", "PLAY 2"), "startRecording(2) = 0;",
            "press(5) = 1;", Calls.reports(0, "REFUSED 0, REFUSED 3, REFUSED 2"));
        runs.check("24 INVALID_ARGUMENT if report is negative", "press(9) = 1;", Calls.below("reportArgument(%)", 0));
        runs.check("24 INVALID_ARGUMENT is returned rather than NOT_FOUND: without reports",
            Calls.below("reportArgument(%)", 0));
        runs.check("24 NOT_FOUND if there is no such report", "reportArgument(0) = -4; press(9) = 1;",
            "reportArgument(0) = 9; reportArgument(1) = -4;",
            "reportArgument(39) = -4; reportArgument(40) = -4; reportArgument(" + MAX + ") = -4");
    }

    private static void latestReports(Runs runs) {
        String first = Calls.bound(0, 0, "0", "FIRE 50") + "press(0) = 1;";
        runs.check("23 or if it is not one of the latest 40: with 40 all can be read", first,
            Runs.times(39, "press(9) = 1"), "reportKind(0) = 0;", Calls.each("reportKind(%) = 1", 1, 39),
            "reportKind(40) = -4");
        runs.check("23 or if it is not one of the latest 40: with 41 the first can not", first,
            Runs.times(40, "press(9) = 1"), "reportKind(0) = -4;", Calls.each("reportKind(%) = 1", 1, 40),
            "reportKind(41) = -4");
        runs.check("24 or if it is not one of the latest 40: with 40 all can be read", first,
            Runs.times(39, "press(9) = 1"), "reportArgument(0) = 50;", Calls.each("reportArgument(%) = 9", 1, 39),
            "reportArgument(40) = -4");
        runs.check("24 or if it is not one of the latest 40: with 41 the first can not", first,
            Runs.times(40, "press(9) = 1"), "reportArgument(0) = -4;", Calls.each("reportArgument(%) = 9", 1, 40),
            "reportArgument(41) = -4");
        runs.check("23 the latest 40, twice around", Runs.times(80, "press(9) = 1"), first,
            Calls.each("reportKind(%) = -4", 0, 40), Calls.each("reportKind(%) = 1", 41, 79), "reportKind(80) = 0;",
            "reportArgument(80) = 50; reportKind(81) = -4");
        // Macro 0 plays macro 1 twelve times: of the 24 + 144 reports only the last 40 can be read.
        runs.check("23 the latest 40 of one call", Calls.recorded(0, Calls.keys(12, 1)),
            Calls.recorded(1, "9 9 9 9 9 9 9 9 9 9 9 8"), Calls.bound(0, 0, "0", "PLAY 0"),
            Calls.bound(0, 1, "1", "PLAY 1"), "press(0) = 144; reportCount() = 168; reportKind(0) = -4;",
            "reportKind(127) = -4; reportArgument(127) = -4; reportArgument(131) = 8; reportArgument(167) = 8;",
            Calls.each("reportKind(%) = 1", 128, 167), Calls.each("reportArgument(%) = 9", 156, 166),
            "reportKind(168) = -4");
    }
}
