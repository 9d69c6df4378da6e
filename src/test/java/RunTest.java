/** Promise 13. */
public final class RunTest {
    private static final int HALTED = ReasmDisasm.RUN_HALTED;
    private static final int FAULT = ReasmDisasm.RUN_FAULT;
    private static final int STEPS = ReasmDisasm.RUN_STEPS;

    public static void main(String[] args) {
        refuses();
        registerEffects();
        loads();
        jumps();
        branches();
        callsAndReturns();
        tableJumps();
        valuesOut();
        invalidInstructions();
        stepLimit();
        pcBeyondTheEnd();
        clearsTheOldRun();
        onTheOutput();
        changesOnlyTheRun();
        Check.end();
    }

    private static ReasmDisasm ran(int start, int maxSteps, int... bytes) {
        ReasmDisasm x = Check.load(bytes);
        Check.due("run(0, " + start + ", " + maxSteps + ")", x.run(0, start, maxSteps), true);
        return x;
    }

    private static void refused(ReasmDisasm x, int which, int start, int maxSteps) {
        String before = Check.state(x);
        String what = "run(" + which + ", " + start + ", " + maxSteps + ")";
        Check.due(what, x.run(which, start, maxSteps), false);
        Check.same("refused " + what, Check.state(x), before);
    }

    private static void refuses() {
        ReasmDisasm empty = new ReasmDisasm(64);
        refused(empty, 0, 0, 1);
        ReasmDisasm x = Check.load(2, 3, 7, 7, 3, 0);
        Check.due("addEntry(3)", x.addEntry(3), true);
        Check.due("run", x.run(0, 0, 10), true);
        refused(x, 1, 0, 10);
        Check.due("analyse(1)", x.analyse(1), true);
        int[] wrongMemories = {-1, 2, 3, Integer.MIN_VALUE, Integer.MAX_VALUE};
        for (int which : wrongMemories) {
            refused(x, which, 0, 10);
        }
        int[] wrongStarts = {-1, 6, 64, Integer.MIN_VALUE, Integer.MAX_VALUE};
        int[] wrongSteps = {0, -1, 2001, Integer.MIN_VALUE, Integer.MAX_VALUE};
        for (int which = 0; which <= 1; which++) {
            for (int start : wrongStarts) {
                refused(x, which, start, 10);
            }
            for (int maxSteps : wrongSteps) {
                refused(x, which, 0, maxSteps);
            }
            Check.due("1 step", x.run(which, 0, 1), true);
            Check.due("2000 steps", x.run(which, 5, 2000), true);
        }
    }

    private static void registerEffects() {
        Check.registersAre("MOVI", ran(0, 9, 2, 0, 255, 2, 1, 1, 2, 3, 128, 0), 255, 1, 0, 128);
        Check.registersAre("LEA", ran(0, 9, 3, 2, 200, 3, 0, 4, 0), 4, 0, 200, 0);
        Check.registersAre("ADD", ran(0, 9, 2, 0, 100, 2, 1, 50, 4, 0, 1, 0), 150, 50, 0, 0);
        Check.registersAre("ADD wraps", ran(0, 9, 2, 0, 200, 2, 1, 56, 4, 0, 1, 0), 0, 56, 0, 0);
        Check.registersAre("ADD to itself", ran(0, 9, 2, 3, 129, 4, 3, 3, 0), 0, 0, 0, 2);
        Check.registersAre("ADDI", ran(0, 9, 5, 2, 255, 5, 3, 7, 0), 0, 0, 255, 7);
        Check.registersAre("ADDI wraps", ran(0, 9, 5, 2, 255, 5, 2, 3, 0), 0, 0, 2, 0);
        Check.ended("NOP", ran(0, 9, 1, 1, 0), HALTED, 3, 2);
        Check.ended("register effects", ran(0, 9, 2, 0, 0, 3, 0, 0, 4, 0, 0, 5, 0, 0, 0), HALTED, 5, 12);
    }

    private static void loads() {
        Check.registersAre("LDX", ran(0, 9, 6, 1, 5, 0, 0, 77), 0, 77, 0, 0);
        Check.registersAre("LDX with an index", ran(0, 9, 2, 2, 3, 6, 1, 6, 2, 0, 0, 88), 0, 88, 3, 0);
        Check.registersAre("LDX over its index", ran(0, 9, 2, 2, 3, 6, 2, 6, 2, 0, 0, 88), 0, 0, 88, 0);
        Check.registersAre("LDX wraps", ran(0, 9, 2, 0, 255, 6, 1, 9, 0, 0, 66), 255, 66, 0, 0);
        ReasmDisasm last = ran(0, 9, 6, 3, 4, 0, 0);
        Check.ended("LDX of the last byte", last, HALTED, 2, 4);
        ReasmDisasm over = ran(0, 9, 2, 3, 1, 6, 3, 8, 0, 0);
        Check.ended("LDX at n", over, FAULT, 1, 3);
        Check.registersAre("LDX at n", over, 0, 0, 0, 1);
        Check.ended("LDX at 255", ran(0, 9, 6, 3, 255, 0, 0), FAULT, 0, 0);
    }

    private static void jumps() {
        Check.ended("JMP", ran(0, 9, 8, 3, 99, 0), HALTED, 2, 3);
        Check.ended("JMP back", ran(3, 9, 0, 99, 99, 8, 0), HALTED, 2, 0);
        Check.ended("JMPR", ran(0, 9, 2, 1, 6, 14, 1, 99, 0), HALTED, 3, 6);
        Check.ended("JMPR to 0", ran(1, 9, 0, 14, 3), HALTED, 2, 0);
    }

    private static void branches() {
        int[][] cases = {
            {9, 5, 5, 1}, {9, 4, 5, 0}, {9, 6, 5, 0}, {9, 0, 0, 1}, {9, 255, 255, 1},
            {10, 5, 5, 1}, {10, 4, 5, 0}, {10, 6, 5, 1}, {10, 0, 0, 1}, {10, 200, 100, 1}, {10, 100, 200, 0},
            {10, 255, 127, 1}, {10, 127, 128, 0}, {10, 128, 127, 1},
        };
        for (int[] c : cases) {
            ReasmDisasm x = ran(0, 9, 2, 1, c[1], c[0], 1, c[2], 8, 0, 0);
            Check.ended("branch " + c[0] + " on " + c[1] + " and " + c[2], x, HALTED, 3, c[3] == 1 ? 8 : 7);
        }
    }

    private static void callsAndReturns() {
        ReasmDisasm x = ran(0, 9, 11, 4, 0, 99, 2, 0, 9, 12);
        Check.ended("CALL and RET", x, HALTED, 4, 2);
        Check.due("depth after RET", x.runInfo(ReasmDisasm.INFO_DEPTH), 0);
        ReasmDisasm in = ran(0, 9, 11, 3, 99, 0);
        Check.due("depth in a call", in.runInfo(ReasmDisasm.INFO_DEPTH), 1);
        // Nested calls come back in the order last in, first out.
        ReasmDisasm nested = ran(0, 20, 11, 5, 7, 0, 0, 11, 11, 5, 0, 1, 12, 5, 0, 16, 12);
        Check.ended("nested calls", nested, HALTED, 8, 4);
        Check.valuesAre("nested calls", nested, 17);
        ReasmDisasm deep = ran(0, 100, 5, 0, 1, 11, 0);
        Check.ended("the ninth call", deep, FAULT, 17, 3);
        Check.due("greatest depth", deep.runInfo(ReasmDisasm.INFO_DEPTH), 8);
        Check.due("calls made", deep.runReg(0), 9);
        ReasmDisasm eight = ran(0, 16, 5, 0, 1, 11, 0);
        Check.ended("the eighth call", eight, STEPS, 16, 0);
        Check.due("eight calls", eight.runInfo(ReasmDisasm.INFO_DEPTH), 8);
        ReasmDisasm bare = ran(0, 9, 1, 12, 0);
        Check.ended("RET on an empty stack", bare, FAULT, 1, 1);
        Check.due("depth after a bare RET", bare.runInfo(ReasmDisasm.INFO_DEPTH), 0);
    }

    private static void tableJumps() {
        Check.ended("JMPT", ran(0, 9, 2, 3, 1, 13, 3, 6, 99, 8, 0), HALTED, 3, 8);
        Check.ended("JMPT wraps", ran(0, 9, 2, 3, 255, 13, 3, 8, 99, 8, 0), HALTED, 3, 8);
        Check.ended("JMPT through the last byte", ran(0, 9, 13, 0, 4, 0, 3), HALTED, 2, 3);
        Check.ended("JMPT at n", ran(0, 9, 13, 0, 5, 0, 3), FAULT, 0, 0);
        Check.ended("JMPT at 255", ran(0, 9, 1, 13, 0, 255, 0, 3), FAULT, 1, 1);
    }

    private static void valuesOut() {
        ReasmDisasm x = ran(0, 9, 7, 0, 2, 1, 255, 7, 1, 0);
        Check.valuesAre("OUT", x, 0, 255);
        ReasmDisasm full = ran(0, 2000, 7, 0, 5, 0, 1, 8, 0);
        Check.ended("the 17th value", full, FAULT, 48, 0);
        Check.valuesAre("16 values", full, 0, 1, 2, 3, 4, 5, 6, 7, 8, 9, 10, 11, 12, 13, 14, 15);
        ReasmDisasm sixteen = ran(0, 46, 7, 0, 5, 0, 1, 8, 0);
        Check.ended("the 16th value", sixteen, STEPS, 46, 2);
    }

    private static void invalidInstructions() {
        Check.ended("opcode 15", ran(0, 9, 1, 15, 0), FAULT, 1, 1);
        Check.ended("opcode 255", ran(0, 9, 1, 255, 0), FAULT, 1, 1);
        Check.ended("opcode 15 at once", ran(0, 9, 15, 0, 0, 0), FAULT, 0, 0);
        int[][] cut = {
            {2, 0}, {3, 0}, {4, 0}, {5, 0}, {6, 0, 0}, {7}, {8}, {9, 0, 0}, {10, 0, 0}, {11}, {13, 0}, {14},
        };
        for (int[] bytes : cut) {
            Check.ended("op " + bytes[0] + " cut", ran(0, 9, bytes), FAULT, 0, 0);
        }
        int[][] wrong = {
            {2, 4, 0}, {3, 4, 0}, {4, 4, 0}, {4, 0, 4}, {5, 4, 0}, {6, 4, 0, 0}, {6, 0, 0, 4}, {7, 4},
            {9, 4, 0, 0}, {10, 4, 0, 0}, {13, 4, 0}, {14, 4}, {14, 255},
        };
        for (int[] bytes : wrong) {
            Check.ended("op " + bytes[0] + " with a wrong register", ran(0, 9, bytes), FAULT, 0, 0);
        }
    }

    private static void stepLimit() {
        Check.ended("endless loop", ran(0, 2000, 8, 0), STEPS, 2000, 0);
        Check.ended("one step", ran(0, 1, 1, 1, 0), STEPS, 1, 1);
        Check.ended("HALT as the last step", ran(0, 3, 1, 1, 0), HALTED, 3, 2);
        Check.ended("one step too few", ran(0, 2, 1, 1, 0), STEPS, 2, 2);
        Check.ended("limit before fault", ran(0, 2, 1, 1, 99), STEPS, 2, 2);
        Check.ended("fault within the limit", ran(0, 3, 1, 1, 99), FAULT, 2, 2);
    }

    private static void pcBeyondTheEnd() {
        Check.ended("fall off", ran(0, 9, 1, 1), FAULT, 2, 2);
        Check.ended("fall off at the limit", ran(0, 2, 1, 1), STEPS, 2, 2);
        Check.ended("fall off a full image", ran(0, 99, Check.full()), FAULT, 64, 64);
        Check.ended("JMP to the end of a full image", ran(62, 9, Check.full(8, 64)), FAULT, 1, 64);
        Check.ended("LDX past a full image", ran(60, 9, Check.full(6, 0, 64, 0)), FAULT, 0, 60);
        Check.ended("cut at the end of a full image", ran(63, 9, Check.full(6)), FAULT, 0, 63);
        Check.ended("JMP to n", ran(0, 9, 8, 2), FAULT, 1, 2);
        Check.ended("JMP to 255", ran(0, 9, 8, 255), FAULT, 1, 255);
        Check.ended("JMP to 255 at the limit", ran(0, 1, 8, 255), STEPS, 1, 255);
        Check.ended("JMPR to 250", ran(0, 9, 2, 0, 250, 14, 0), FAULT, 2, 250);
        Check.ended("CALL of 200", ran(0, 9, 11, 200), FAULT, 1, 200);
        Check.ended("RET to n", ran(1, 9, 12, 11, 0), FAULT, 2, 3);
        Check.ended("RET to n at the limit", ran(1, 2, 12, 11, 0), STEPS, 2, 3);
        Check.ended("JMPT to 99", ran(0, 9, 13, 0, 3, 99), FAULT, 1, 99);
        Check.ended("BEQI to 99", ran(0, 9, 9, 0, 0, 99), FAULT, 1, 99);
    }

    private static void clearsTheOldRun() {
        ReasmDisasm x = ran(0, 9, 2, 2, 9, 7, 2, 11, 9, 0, 0, 99, 0);
        Check.ended("first run", x, FAULT, 3, 9);
        Check.due("run", x.run(0, 10, 9), true);
        Check.ended("second run", x, HALTED, 1, 10);
        Check.due("depth", x.runInfo(ReasmDisasm.INFO_DEPTH), 0);
        Check.registersAre("second run", x, 0, 0, 0, 0);
        Check.valuesAre("second run", x);
    }

    private static void onTheOutput() {
        // CALL 4, HALT, a free byte, then OUT and RET: the call goes over the padding.
        ReasmDisasm x = Check.analysed(3, 0, 11, 4, 0, 99, 3, 0, 4, 7, 0, 12);
        Check.due("run", x.run(1, 0, 20), true);
        Check.ended("output", x, HALTED, 5, 2);
        Check.valuesAre("output", x, 7);
        Check.due("run", x.run(0, 0, 20), true);
        Check.valuesAre("image", x, 4);
        Check.due("run", x.run(1, 4, 20), true);
        Check.ended("output from the function", x, FAULT, 2, 12);
        Check.due("run", x.run(1, 3, 20), true);
        Check.ended("output from data", x, FAULT, 0, 3);
        // The memory's end is that of the output: byte 4 is out of the image but in the output.
        ReasmDisasm y = Check.analysed(2, 0, 6, 0, 4, 0);
        Check.due("run", y.run(0, 0, 1), true);
        Check.ended("LDX at n", y, FAULT, 0, 0);
        ReasmDisasm z = Check.load(6, 0, 6, 0, 0, 55);
        Check.due("addEntry(0)", z.addEntry(0), true);
        Check.due("addEntry(5)", z.addEntry(5), true);
        Check.due("analyse(2)", z.analyse(2), true);
        Check.due("run", z.run(1, 0, 9), true);
        Check.ended("LDX of padding", z, HALTED, 2, 4);
        Check.registersAre("LDX of padding", z, 1, 0, 0, 0);
        // Falling into a function runs its padding as NOPs.
        ReasmDisasm fall = Check.load(1, 0);
        Check.due("addEntry(1)", fall.addEntry(1), true);
        Check.due("analyse(3)", fall.analyse(3), true);
        Check.due("run", fall.run(1, 0, 9), true);
        Check.ended("through the padding", fall, HALTED, 5, 4);
        Check.due("run", fall.run(1, 1, 9), true);
        Check.ended("after the padding", fall, HALTED, 1, 4);
    }

    private static void changesOnlyTheRun() {
        ReasmDisasm x = Check.analysed(2, 0, 11, 4, 0, 99, 3, 0, 4, 7, 0, 12);
        String before = Check.imageState(x);
        for (int which = 0; which <= 1; which++) {
            for (int start = 0; start < 10; start++) {
                Check.due("run", x.run(which, start, 50), true);
                Check.same("image after run", Check.imageState(x), before);
            }
        }
        Check.imageIs("image after runs", x, 11, 4, 0, 99, 3, 0, 4, 7, 0, 12);
    }
}
