/** The four examples of the document. */
public final class ExamplesTest {
    public static void main(String[] args) {
        Runs runs = new Runs();
        runs.check("example 1",
            "appendKey(0) = 1; appendKey(1) = 2; bind(0, -1, 0, 0, 7) = 0; appendKey(0) = 1;"
            + "bind(0, -1, 0, 0, 3) = 1; press(0) = 0; pendingLength() = 1; press(1) = 1;"
            + "reportArgument(0) = 7; press(0) = 0; tick(10) = 1; reportArgument(1) = 3");
        runs.check("example 2",
            "appendKey(0) = 1; appendKey(1) = 2; bind(0, -1, 0, 0, 7) = 0; appendKey(0) = 1;"
            + "bind(0, -1, 0, 0, 3) = 1; press(0) = 0; press(5) = 2; reportArgument(0) = 3;"
            + "reportKind(1) = 1; reportArgument(1) = 5; pendingLength() = 0");
        runs.check("example 3",
            "startRecording(0) = 0; press(2) = 1; stopRecording() = 1; appendKey(7) = 1;"
            + "bind(0, -1, 0, 1, 0) = 0; appendKey(2) = 1; bind(0, -1, 0, 0, 22) = 1; press(7) = 1;"
            + "reportKind(0) = 1; reportArgument(1) = 22; macroKey(0, 1) = -4");
        runs.check("example 4",
            "bind(0, -1, 0, 0, 5) = -2; appendKey(12) = -1; appendKey(4) = 1; bind(0, -1, 0, 3, 0) = 0;"
            + "press(4) = 1; reportKind(0) = 2; reportArgument(0) = 0; stackSize() = 1");
        runs.end();
    }
}
