/** Promises 14, 15 and 16: runInfo, runReg and runOut. */
public final class RunAskTest {
    public static void main(String[] args) {
        beforeAnyRun();
        afterRuns();
        wrongKinds();
        wrongRegisters();
        wrongValues();
        Check.end();
    }

    private static void beforeAnyRun() {
        ReasmDisasm x = Check.load(2, 0, 9, 7, 0, 0);
        for (int k = 0; k <= 4; k++) {
            Check.due("runInfo(" + k + ") before a run", x.runInfo(k), 0);
        }
        Check.registersAre("before a run", x, 0, 0, 0, 0);
        Check.valuesAre("before a run", x);
    }

    private static ReasmDisasm ran() {
        // R0..R3 = 10, 20, 30, 255; out 255 and 10; a call; then a wrong opcode.
        ReasmDisasm x = Check.load(2, 0, 10, 2, 1, 20, 2, 2, 30, 2, 3, 255, 7, 3, 7, 0, 11, 19, 0, 99);
        Check.due("run", x.run(0, 0, 100), true);
        return x;
    }

    private static void infoIs(String what, ReasmDisasm x, int... info) {
        for (int k = 0; k < info.length; k++) {
            Check.due(what + ": runInfo(" + k + ")", x.runInfo(k), info[k]);
        }
    }

    private static void afterRuns() {
        ReasmDisasm x = ran();
        infoIs("fault", x, ReasmDisasm.RUN_FAULT, 7, 19, 2, 1);
        Check.registersAre("fault", x, 10, 20, 30, 255);
        Check.valuesAre("fault", x, 255, 10);
        Check.due("run", x.run(0, 0, 5), true);
        infoIs("steps", x, ReasmDisasm.RUN_STEPS, 5, 14, 1, 0);
        Check.valuesAre("steps", x, 255);
        Check.due("run", x.run(0, 18, 5), true);
        infoIs("halted", x, ReasmDisasm.RUN_HALTED, 1, 18, 0, 0);
        Check.valuesAre("halted", x);
        ReasmDisasm y = ran();
        y.reset();
        infoIs("reset", y, ReasmDisasm.RUN_NONE, 0, 0, 0, 0);
        Check.registersAre("reset", y, 0, 0, 0, 0);
        Check.valuesAre("reset", y);
    }

    private static void wrongKinds() {
        ReasmDisasm x = ran();
        String before = Check.state(x);
        int[] wrong = {-1, 5, 6, Integer.MIN_VALUE, Integer.MAX_VALUE};
        for (int k : wrong) {
            Check.due("runInfo(" + k + ")", x.runInfo(k), -1);
        }
        Check.same("after runInfo", Check.state(x), before);
    }

    private static void wrongRegisters() {
        ReasmDisasm x = ran();
        String before = Check.state(x);
        int[] wrong = {-1, 4, 5, Integer.MIN_VALUE, Integer.MAX_VALUE};
        for (int i : wrong) {
            Check.due("runReg(" + i + ")", x.runReg(i), -1);
        }
        Check.same("after runReg", Check.state(x), before);
    }

    private static void wrongValues() {
        ReasmDisasm x = ran();
        String before = Check.state(x);
        int[] wrong = {-1, 2, 3, 16, 17, Integer.MIN_VALUE, Integer.MAX_VALUE};
        for (int i : wrong) {
            Check.due("runOut(" + i + ")", x.runOut(i), -1);
        }
        Check.same("after runOut", Check.state(x), before);
        // A shorter run hides what an earlier one put out.
        Check.due("run", x.run(0, 18, 5), true);
        Check.due("runOut(0) of a run without values", x.runOut(0), -1);
    }
}
