/** Promises 14, 15 and 16. Each method holds to the sentence above it. */
public final class RunAskTest {
    public static void main(String[] args) {
        beforeAnyRun();
        afterRuns();
        afterReset();
        wrongKinds();
        wrongRegisters();
        wrongValues();
        noValues();
        sixteenValues();
        fewerValues();
        refusedRun();
        changesNothing();
        Check.end();
    }

    /** "Before any run ... these are `RUN_NONE`, 0, 0, 0, 0", and all registers 0. */
    private static void beforeAnyRun() {
        infoIs("new", new ReasmDisasm(64), ReasmDisasm.RUN_NONE, 0, 0, 0, 0);
        ReasmDisasm x = Check.load(2, 0, 9, 7, 0, 0);
        infoIs("before a run", x, ReasmDisasm.RUN_NONE, 0, 0, 0, 0);
        Check.enter(x, 3);
        Check.analyse(x, 3);
        infoIs("analysed, before a run", x, ReasmDisasm.RUN_NONE, 0, 0, 0, 0);
        Check.neverRan("before a run", x);
    }

    private static ReasmDisasm ran() {
        // R0..R3 = 10, 20, 30, 255; out 255 and 10; a call; then a wrong opcode.
        return Check.ran(0, 100, 2, 0, 10, 2, 1, 20, 2, 2, 30, 2, 3, 255, 7, 3, 7, 0, 11, 19, 0, 99);
    }

    private static void infoIs(String what, ReasmDisasm x, int... info) {
        for (int k = 0; k < info.length; k++) {
            Check.due(what + ": runInfo(" + k + ")", x.runInfo(k), info[k]);
        }
    }

    /** "`runInfo(k)` asks the last run's state." */
    private static void afterRuns() {
        ReasmDisasm x = ran();
        infoIs("fault", x, ReasmDisasm.RUN_FAULT, 7, 19, 2, 1);
        Check.registersAre("fault", x, 10, 20, 30, 255);
        Check.valuesAre("fault", x, 255, 10);
        Check.run(x, ReasmDisasm.MEM_IMAGE, 0, 5);
        infoIs("steps", x, ReasmDisasm.RUN_STEPS, 5, 14, 1, 0);
        Check.valuesAre("steps", x, 255);
        Check.run(x, ReasmDisasm.MEM_IMAGE, 18, 5);
        infoIs("halted", x, ReasmDisasm.RUN_HALTED, 1, 18, 0, 0);
        Check.valuesAre("halted", x);
    }

    /** "Or after `reset`." */
    private static void afterReset() {
        ReasmDisasm x = ran();
        x.reset();
        infoIs("reset", x, ReasmDisasm.RUN_NONE, 0, 0, 0, 0);
        Check.neverRan("reset", x);
    }

    /** "Any other k answers -1." */
    private static void wrongKinds() {
        ReasmDisasm x = ran();
        for (int k : Check.outside(0, 5)) {
            Check.due("runInfo(" + k + ")", x.runInfo(k), -1);
            Check.due("runInfo(" + k + ") on a new object", new ReasmDisasm(8).runInfo(k), -1);
        }
    }

    /** "It answers -1 if i<0 or i>3." */
    private static void wrongRegisters() {
        ReasmDisasm x = ran();
        for (int i : Check.outside(0, 4)) {
            Check.due("runReg(" + i + ")", x.runReg(i), -1);
            Check.due("runReg(" + i + ") on a new object", new ReasmDisasm(8).runReg(i), -1);
        }
    }

    /** "It answers -1 if i<0 or i>=the `INFO_OUTCOUNT` value." */
    private static void wrongValues() {
        ReasmDisasm x = ran();
        Check.due("runOut(1)", x.runOut(1), 10);
        for (int i : Check.outside(0, 2)) {
            Check.due("runOut(" + i + ")", x.runOut(i), -1);
        }
    }

    private static void noValues() {
        Check.valuesAre("new", new ReasmDisasm(64));
        ReasmDisasm x = Check.ran(0, 9, 0);
        for (int i : Check.outside(0, 0)) {
            Check.due("runOut(" + i + ") without values", x.runOut(i), -1);
        }
    }

    private static void sixteenValues() {
        ReasmDisasm x = Check.ran(0, 2000, 5, 0, 17, 7, 0, 8, 0);
        for (int i = 0; i < 16; i++) {
            Check.due("runOut(" + i + ")", x.runOut(i), 17 * (i + 1) % 256);
        }
        for (int i : Check.outside(0, 16)) {
            Check.due("runOut(" + i + ") of sixteen", x.runOut(i), -1);
        }
    }

    /** A shorter run hides what an earlier one put out. */
    private static void fewerValues() {
        ReasmDisasm x = Check.ran(0, 2000, 5, 0, 17, 7, 0, 8, 0, 7, 1, 0);
        Check.run(x, ReasmDisasm.MEM_IMAGE, 7, 9);
        Check.valuesAre("one value after sixteen", x, 0);
        Check.run(x, ReasmDisasm.MEM_IMAGE, 9, 9);
        Check.valuesAre("no value after one", x);
    }

    /** A refused run is not the last run. */
    private static void refusedRun() {
        ReasmDisasm x = ran();
        String before = Check.state(x);
        Check.refused("run past the image", x.run(ReasmDisasm.MEM_IMAGE, 20, 5), x, before);
        infoIs("after a refused run", x, ReasmDisasm.RUN_FAULT, 7, 19, 2, 1);
    }

    /** "It changes nothing", of all three. */
    private static void changesNothing() {
        ReasmDisasm x = ran();
        String before = Check.state(x);
        for (int i = -2; i <= 18; i++) {
            x.runInfo(i);
            x.runReg(i);
            x.runOut(i);
        }
        Check.same("after asking", Check.state(x), before);
    }
}
