/** Promises 16 to 24: flags, the context stack, macros and reports. */
public final class StateTest {
    public static void main(String[] args) {
        Runs runs = new Runs();
        flag(runs);
        stack(runs);
        recording(runs);
        macroKey(runs);
        playing(runs);
        playLimits(runs);
        reports(runs);
        runs.end();
    }

    private static void flag(Runs runs) {
        runs.check("16", "flag(-1) = -1; flag(6) = -1; flag(-2147483648) = -1; flag(2147483647) = -1; setFlag(3, 1) = 0;"
            + "flag(0) = 0; flag(2) = 0; flag(3) = 1; flag(4) = 0; flag(5) = 0");
    }

    private static void stack(Runs runs) {
        String pushes = "appendKey(1) = 1; bind(0, -1, 0, 2, 1) = 0; appendKey(2) = 1; bind(0, -1, 0, 2, 2) = 1;"
            + "appendKey(3) = 1; bind(0, -1, 0, 3, 0) = 2; appendKey(4) = 1; bind(0, -1, 0, 2, 0) = 3;";
        runs.check("17 size", pushes, "stackSize() = 1; press(1) = 0; stackSize() = 2; press(1) = 0; stackSize() = 3;"
            + "press(4) = 0; stackSize() = 4; press(4) = 1; stackSize() = 4; press(3) = 0; stackSize() = 3");
        runs.check("18 depth", pushes, "press(2) = 0; press(1) = 0; press(1) = 0; stackContext(0) = 1; stackContext(1) = 1;"
            + "stackContext(2) = 2; stackContext(3) = 0; stackContext(4) = -4; stackContext(2147483647) = -4;"
            + "stackContext(-1) = -1; stackContext(-2147483648) = -1; press(3) = 0; press(3) = 0; stackContext(0) = 2;"
            + "stackContext(1) = 0; stackContext(2) = -4");
    }

    private static void recording(Runs runs) {
        runs.check("19 length and range", "startRecording(-1) = -1; startRecording(4) = -1; startRecording(3) = 0;"
            + "press(1) = 1; press(2) = 1; startRecording(3) = -2; startRecording(0) = -2; startRecording(4) = -1;"
            + "stopRecording() = 2; startRecording(3) = 2; macroKey(3, 0) = -4; stopRecording() = 0; startRecording(3) = 0");
        runs.check("19 other macros stay", "startRecording(1) = 0; press(7) = 1; stopRecording() = 1; startRecording(2) = 0;"
            + "macroKey(1, 0) = 7; press(8) = 1; stopRecording() = 1; macroKey(1, 0) = 7; macroKey(1, 1) = -4");
        runs.check("20 state", "stopRecording() = -2; startRecording(0) = 0; stopRecording() = 0; stopRecording() = -2;"
            + "press(1) = 1; macroKey(0, 0) = -4");
        runs.check("20 at most 12 keys", "startRecording(0) = 0;", Runs.times(11, "press(1) = 1"), "press(2) = 1;",
            "press(3) = 1; macroKey(0, 11) = 2; macroKey(0, 12) = -4; stopRecording() = 12; startRecording(0) = 12");
        runs.check("20 keys that are played or processed again are not recorded",
            "startRecording(0) = 0; press(1) = 1; press(2) = 1; stopRecording() = 2;"
            + "appendKey(7) = 1; bind(0, -1, 0, 1, 0) = 0; appendKey(8) = 1; appendKey(9) = 2; appendKey(10) = 3;"
            + "bind(0, -1, 0, 0, 1) = 1; startRecording(1) = 0; press(7) = 2; press(8) = 0; press(9) = 0; press(7) = 4;"
            + "stopRecording() = 4; macroKey(1, 0) = 7; macroKey(1, 1) = 8; macroKey(1, 2) = 9; macroKey(1, 3) = 7");
        runs.check("20 a pending key is recorded", "appendKey(1) = 1; appendKey(2) = 2; bind(0, -1, 0, 0, 1) = 0;"
            + "startRecording(2) = 0; press(1) = 0; macroKey(2, 0) = 1; stopRecording() = 1; pendingLength() = 1");
    }

    private static void macroKey(Runs runs) {
        runs.check("21", "startRecording(2) = 0; press(5) = 1; press(6) = 1; stopRecording() = 2; macroKey(2, 0) = 5;"
            + "macroKey(2, 1) = 6; macroKey(2, 2) = -4; macroKey(2, 12) = -4; macroKey(2, 2147483647) = -4;"
            + "macroKey(2, -1) = -1; macroKey(-1, 0) = -1; macroKey(4, 0) = -1; macroKey(4, -1) = -1; macroKey(1, 0) = -4;"
            + "macroKey(3, -2147483648) = -1");
    }

    private static void playing(Runs runs) {
        runs.check("8 the macro that is being recorded is refused",
            "appendKey(1) = 1; bind(0, -1, 0, 1, 2) = 0; startRecording(2) = 0; press(1) = 1; reportKind(0) = 2;"
            + "reportArgument(0) = 2; stopRecording() = 1");
        runs.check("8 an empty macro", "appendKey(1) = 1; bind(0, -1, 0, 1, 2) = 0; press(1) = 0; reportCount() = 0");
        runs.check("8 what a macro leaves pending",
            "startRecording(0) = 0; press(5) = 1; stopRecording() = 1; appendKey(1) = 1; bind(0, -1, 0, 1, 0) = 0;"
            + "appendKey(5) = 1; appendKey(6) = 2; bind(0, -1, 0, 0, 56) = 1; press(1) = 0; pendingLength() = 1;"
            + "remainingTime() = 10; press(6) = 1; reportArgument(1) = 56");
        runs.check("9 a timeout plays a macro",
            "startRecording(0) = 0; press(5) = 1; stopRecording() = 1; appendKey(1) = 1; bind(0, -1, 0, 1, 0) = 0;"
            + "appendKey(1) = 1; appendKey(2) = 2; bind(0, -1, 0, 0, 12) = 1; press(1) = 0; tick(10) = 1;"
            + "reportKind(1) = 1; reportArgument(1) = 5");
    }

    private static void playLimits(Runs runs) {
        String loop = "startRecording(0) = 0; press(1) = 1; press(2) = 1; stopRecording() = 2;"
            + "appendKey(1) = 1; bind(0, -1, 0, 1, 0) = 0;";
        runs.check("8 three inside one another", loop, "press(1) = 4; reportKind(2) = 2; reportArgument(2) = 0;"
            + "reportKind(3) = 1; reportArgument(3) = 2; reportKind(4) = 1; reportKind(5) = 1");
        runs.check("8 a macro is being played until its last key has been processed",
            "startRecording(0) = 0; press(2) = 1; press(1) = 1; stopRecording() = 2;"
            + "appendKey(1) = 1; bind(0, -1, 0, 1, 0) = 0; press(1) = 4; reportKind(4) = 1; reportKind(5) = 2");
        String many = "startRecording(0) = 0;" + Runs.times(12, "press(1) = 1") + "stopRecording() = 12;"
            + "appendKey(1) = 1; bind(0, -1, 0, 1, 1) = 0; appendKey(2) = 1; bind(0, -1, 0, 1, 0) = 1;"
            + "appendKey(3) = 1; bind(0, -1, 0, 1, 2) = 2; startRecording(2) = 0; press(2) = 0; press(2) = 0;"
            + "stopRecording() = 2;";
        // Of the 27 macros that macro 2 asks for, with those inside it, the last 7 are one too many.
        runs.check("8 twenty in one call", many, "press(3) = 7; reportKind(12) = 2; reportArgument(12) = 1;"
            + "reportKind(18) = 2; reportCount() = 19; press(2) = 0; press(3) = 7");
        String threeTimeouts = "startRecording(0) = 0;" + Runs.times(12, "press(9) = 1") + "stopRecording() = 12;"
            + "appendKey(9) = 1; bind(0, -1, 0, 1, 1) = 0; appendKey(1) = 1; bind(0, -1, 0, 1, 0) = 1;"
            + "appendKey(1) = 1; appendKey(1) = 2; appendKey(1) = 3; appendKey(1) = 4; bind(0, -1, 0, 0, 1) = 2;"
            + "setTimeout(1) = 10; press(1) = 0; press(1) = 0; press(1) = 0;";
        runs.check("9 twenty in one call", threeTimeouts, "tick(3) = 7; reportKind(12) = 2; reportArgument(12) = 1;"
            + "reportArgument(17) = 1; reportKind(18) = 2; reportArgument(18) = 0");
        runs.check("9 each call counts anew", threeTimeouts, "tick(1) = 0; tick(1) = 0; tick(1) = 0; pendingLength() = 0");
        String refusedPlays = "startRecording(0) = 0;" + Runs.times(12, "press(4) = 1") + "stopRecording() = 12;"
            + "startRecording(2) = 0;" + Runs.times(12, "press(5) = 1") + "stopRecording() = 12; startRecording(1) = 0;"
            + "appendKey(4) = 1; bind(0, -1, 0, 1, 1) = 0; appendKey(5) = 1; bind(0, -1, 0, 1, 0) = 1;"
            + "appendKey(6) = 1; bind(0, -1, 0, 1, 2) = 2;";
        runs.check("8 refused ones are not counted", refusedPlays, "press(6) = 144; reportKind(167) = 2; reportArgument(167) = 1");
    }

    private static void reports(Runs runs) {
        runs.check("22 count", "reportCount() = 0; press(1) = 1; reportCount() = 1; press(12) = -1; reportCount() = 1;",
            Runs.times(59, "press(2) = 1"), "reportCount() = 60");
        String kinds = "appendKey(1) = 1; bind(0, -1, 0, 0, 99) = 0; appendKey(2) = 1; bind(0, -1, 0, 3, 0) = 1;"
            + "press(1) = 1; press(11) = 1; press(2) = 1;";
        runs.check("23 kinds", kinds, "reportKind(0) = 0; reportKind(1) = 1; reportKind(2) = 2; reportKind(3) = -4;"
            + "reportKind(-1) = -1; reportKind(-2147483648) = -1; reportKind(2147483647) = -4");
        runs.check("24 arguments", kinds, "reportArgument(0) = 99; reportArgument(1) = 11; reportArgument(2) = 0;"
            + "reportArgument(3) = -4; reportArgument(-1) = -1; reportArgument(-2147483648) = -1;"
            + "reportArgument(2147483647) = -4");
        runs.check("23 and 24 only the latest 40", kinds, Runs.times(37, "press(3) = 1"), "reportKind(0) = 0;"
            + "reportArgument(0) = 99; press(4) = 1; reportKind(0) = -4; reportArgument(0) = -4; reportKind(1) = 1;"
            + "reportArgument(1) = 11; reportArgument(2) = 0; reportArgument(39) = 3; reportArgument(40) = 4;"
            + "reportKind(40) = 1; reportKind(41) = -4; press(5) = 1; reportArgument(1) = -4; reportKind(2) = 2");
    }
}
