/** Promise 13: the loop, with its tests in order. Each method holds to the sentence above it. */
public final class RunLoopTest {
    private static final int HALTED = ReasmDisasm.RUN_HALTED;
    private static final int FAULT = ReasmDisasm.RUN_FAULT;
    private static final int STEPS = ReasmDisasm.RUN_STEPS;

    public static void main(String[] args) {
        limitFirst();
        limitBeforeHalt();
        greatestLimit();
        notValid();
        faultChangesNothing();
        haltStays();
        boundsInBothMemories();
        pcNotChecked();
        pcNotCheckedInAFullImage();
        pcNotCheckedInTheOutput();
        Check.end();
    }

    /** Runs up to the limit, and then one step farther: the stop is RUN_STEPS first, and RUN_FAULT only then. */
    private static void limitThenFault(String what, int start, int steps, int pc, int... bytes) {
        Check.ended(what + " at the limit", Check.ran(start, steps, bytes), STEPS, steps, pc);
        Check.ended(what + " below the limit", Check.ran(start, steps + 1, bytes), FAULT, steps, pc);
        Check.ended(what + " far below the limit", Check.ran(start, 2000, bytes), FAULT, steps, pc);
    }

    /** "If steps==maxSteps: status `RUN_STEPS`, stop", before any test for a fault. */
    private static void limitFirst() {
        limitThenFault("opcode 15", 0, 2, 2, 1, 1, 15);
        limitThenFault("opcode 255", 0, 1, 1, 1, 255);
        limitThenFault("a cut instruction", 0, 1, 1, 1, 2, 0);
        limitThenFault("a wrong register", 0, 1, 1, 1, 7, 4);
        limitThenFault("LDX past the end", 0, 1, 1, 1, 6, 0, 99, 0);
        limitThenFault("JMPT past the end", 0, 1, 1, 1, 13, 0, 99);
        limitThenFault("RET on an empty stack", 0, 1, 1, 1, 12);
        limitThenFault("the ninth CALL", 0, 8, 0, 11, 0);
        limitThenFault("the 17th OUT", 0, 32, 0, 7, 0, 8, 0);
    }

    private static void limitBeforeHalt() {
        Check.ended("HALT after the limit", Check.ran(0, 2, 1, 1, 0), STEPS, 2, 2);
        Check.ended("HALT as the last step", Check.ran(0, 3, 1, 1, 0), HALTED, 3, 2);
        Check.ended("HALT before the limit", Check.ran(0, 4, 1, 1, 0), HALTED, 3, 2);
        Check.ended("HALT as the only step", Check.ran(0, 1, 0), HALTED, 1, 0);
        Check.ended("one step", Check.ran(0, 1, 1, 1, 0), STEPS, 1, 1);
    }

    /** Counts R0 round twice and R2 to 153, which takes 1997 steps, and then meets the last bytes. */
    private static int[] slow(int... last) {
        int[] loops = {
            5, 0, 1, 9, 0, 0, 9, 8, 0, 5, 1, 1, 9, 1, 2, 18, 8, 0, 5, 2, 1, 9, 2, 153, 27, 8, 18,
        };
        int[] bytes = java.util.Arrays.copyOf(loops, loops.length + last.length);
        System.arraycopy(last, 0, bytes, loops.length, last.length);
        return bytes;
    }

    /** The greatest limit, 2000, is a limit as any other. */
    private static void greatestLimit() {
        Check.ended("endless loop", Check.ran(0, 2000, 8, 0), STEPS, 2000, 0);
        Check.ended("HALT as step 1999", Check.ran(0, 2000, slow(1, 0)), HALTED, 1999, 28);
        Check.ended("HALT as step 2000", Check.ran(0, 2000, slow(1, 1, 0)), HALTED, 2000, 29);
        Check.ended("HALT after 2000", Check.ran(0, 2000, slow(1, 1, 1, 0)), STEPS, 2000, 30);
        Check.ended("fault after 1999", Check.ran(0, 2000, slow(1, 1, 99)), FAULT, 1999, 29);
        Check.ended("fault after 2000", Check.ran(0, 2000, slow(1, 1, 1, 99)), STEPS, 2000, 30);
        Check.ended("limit 1999", Check.ran(0, 1999, slow(1, 1, 0)), STEPS, 1999, 29);
    }

    /** "Or the instruction at pc does not decode validly in this memory: status `RUN_FAULT`, stop." */
    private static void notValid() {
        Check.ended("opcode 15 at once", Check.ran(0, 9, 15, 0, 0, 0), FAULT, 0, 0);
        int[][] cut = {
            {2, 0}, {3, 0}, {4, 0}, {5, 0}, {6, 0, 0}, {7}, {8}, {9, 0, 0}, {10, 0, 0}, {11}, {13, 0}, {14},
        };
        for (int[] bytes : cut) {
            Check.ended("op " + bytes[0] + " cut", Check.ran(0, 9, bytes), FAULT, 0, 0);
        }
        int[][] wrong = {
            {2, 4, 0}, {3, 4, 0}, {4, 4, 0}, {4, 0, 4}, {5, 4, 0}, {6, 4, 0, 0}, {6, 0, 0, 4}, {7, 4},
            {9, 4, 0, 0}, {10, 4, 0, 0}, {13, 4, 0}, {14, 4}, {14, 255},
        };
        for (int[] bytes : wrong) {
            Check.ended("op " + bytes[0] + " with a wrong register", Check.ran(0, 9, bytes), FAULT, 0, 0);
        }
    }

    /** "Nothing of the state is changed by that instruction." */
    private static void faultChangesNothing() {
        int[][] faults = {{6, 1, 99, 0}, {13, 0, 99}, {12}, {7, 4}, {15}};
        for (int[] fault : faults) {
            int[] bytes = {2, 0, 5, 2, 1, 6, 7, 1, 0, 0, 0, 0};
            System.arraycopy(fault, 0, bytes, 8, fault.length);
            sameButForTheEnd("op " + fault[0], Check.ran(0, 3, bytes), Check.ran(0, 99, bytes));
        }
        int[] calls = {5, 0, 1, 11, 0};
        sameButForTheEnd("the ninth CALL", Check.ran(0, 17, calls), Check.ran(0, 99, calls));
        int[] values = {7, 0, 5, 0, 1, 8, 0};
        sameButForTheEnd("the 17th OUT", Check.ran(0, 48, values), Check.ran(0, 99, values));
    }

    /** The one stopped at the limit just before the instruction, the other at its fault. */
    private static void sameButForTheEnd(String what, ReasmDisasm limited, ReasmDisasm faulted) {
        Check.due(what + ": limited", limited.runInfo(ReasmDisasm.INFO_STATUS), STEPS);
        Check.due(what + ": faulted", faulted.runInfo(ReasmDisasm.INFO_STATUS), FAULT);
        for (int k = 1; k <= 4; k++) {
            Check.due(what + ": runInfo(" + k + ")", faulted.runInfo(k), limited.runInfo(k));
        }
        for (int i = 0; i < 4; i++) {
            Check.due(what + ": runReg(" + i + ")", faulted.runReg(i), limited.runReg(i));
        }
        for (int i = 0; i <= 16; i++) {
            Check.due(what + ": runOut(" + i + ")", faulted.runOut(i), limited.runOut(i));
        }
    }

    /** "Adds 1 to steps. If the instruction is HALT: status `RUN_HALTED`, stop, and pc stays at the HALT." */
    private static void haltStays() {
        for (int start = 0; start < 64; start++) {
            Check.ended("HALT at " + start, Check.ran(start, 9, new int[64]), HALTED, 1, start);
        }
    }

    /** "At most 16 values are ever out and the stack depth never exceeds 8." */
    private static void boundsInBothMemories() {
        ReasmDisasm values = Check.analysed(3, 1, 0, 7, 2, 8, 1);
        ReasmDisasm calls = Check.analysed(3, 1, 0, 11, 1);
        int[] pcs = {1, 4};
        for (int which = 0; which <= 1; which++) {
            Check.run(values, which, 1, 2000);
            Check.ended("values in memory " + which, values, FAULT, 32, pcs[which]);
            Check.due("values in memory " + which, values.runInfo(ReasmDisasm.INFO_OUTCOUNT), 16);
            Check.run(calls, which, 1, 2000);
            Check.ended("calls in memory " + which, calls, FAULT, 8, pcs[which]);
            Check.due("depth in memory " + which, calls.runInfo(ReasmDisasm.INFO_DEPTH), 8);
        }
    }

    /** "A pc at or beyond n ... is not checked when it is set", from whatever sets it. */
    private static void pcNotChecked() {
        limitThenFault("JMP to n", 0, 1, 2, 8, 2);
        limitThenFault("JMP to 255", 0, 1, 255, 8, 255);
        limitThenFault("BEQI to n", 0, 1, 4, 9, 0, 0, 4);
        limitThenFault("BEQI to 255", 0, 1, 255, 9, 0, 0, 255);
        limitThenFault("BGEI to n", 0, 1, 4, 10, 0, 0, 4);
        limitThenFault("BGEI to 255", 0, 1, 255, 10, 0, 0, 255);
        limitThenFault("BEQI not taken", 0, 1, 4, 9, 0, 1, 0);
        limitThenFault("BGEI not taken", 0, 1, 4, 10, 0, 1, 0);
        limitThenFault("CALL of n", 0, 1, 2, 11, 2);
        limitThenFault("CALL of 255", 0, 1, 255, 11, 255);
        limitThenFault("JMPT to n", 0, 1, 4, 13, 0, 3, 4);
        limitThenFault("JMPT to 255", 0, 1, 255, 13, 0, 3, 255);
        limitThenFault("JMPR to n", 0, 2, 5, 2, 0, 5, 14, 0);
        limitThenFault("JMPR to 255", 0, 2, 255, 2, 0, 255, 14, 0);
        limitThenFault("RET to n", 1, 2, 3, 12, 11, 0);
        int[][] falling = {{1}, {2, 0, 0}, {3, 0, 0}, {4, 0, 0}, {5, 0, 0}, {6, 0, 0, 0}, {7, 0}};
        for (int[] bytes : falling) {
            limitThenFault("fall through op " + bytes[0], 0, 1, bytes.length, bytes);
        }
    }

    private static void pcNotCheckedInAFullImage() {
        limitThenFault("fall off", 0, 64, 64, Check.full());
        limitThenFault("JMP to 64", 62, 1, 64, Check.full(8, 64));
        limitThenFault("JMP to 255", 62, 1, 255, Check.full(8, 255));
        limitThenFault("CALL of 64", 62, 1, 64, Check.full(11, 64));
        limitThenFault("JMPR to 64", 59, 2, 64, Check.full(2, 0, 64, 14, 0));
        limitThenFault("JMPT to 64", 60, 1, 64, Check.full(13, 0, 63, 64));
        int[] returns = Check.full(11, 0);
        returns[0] = 12;
        limitThenFault("RET to 64", 62, 2, 64, returns);
        Check.ended("cut at the end", Check.ran(63, 9, Check.full(6)), FAULT, 0, 63);
    }

    private static void limitThenFaultOutput(String what, ReasmDisasm x, int start, int steps, int pc) {
        Check.run(x, ReasmDisasm.MEM_OUTPUT, start, steps);
        Check.ended(what + " at the limit", x, STEPS, steps, pc);
        Check.run(x, ReasmDisasm.MEM_OUTPUT, start, steps + 1);
        Check.ended(what + " below the limit", x, FAULT, steps, pc);
    }

    private static void pcNotCheckedInTheOutput() {
        // SIZE is 3 and OUTSIZE is 6.
        limitThenFaultOutput("fall off", Check.analysed(3, 2, 0, 0, 1), 2, 1, 6);
        limitThenFaultOutput("JMP to OUTSIZE", Check.analysed(3, 1, 0, 8, 6), 1, 1, 6);
        limitThenFaultOutput("JMP to 255", Check.analysed(3, 1, 0, 8, 255), 1, 1, 255);
        limitThenFaultOutput("RET to OUTSIZE", Check.analysed(3, 1, 12, 11, 0), 1, 2, 6);
        // The same number is past the image, but in the output it is the last byte, a HALT.
        ReasmDisasm x = Check.analysedFrom(new int[] {1, 3}, 3, 0, 8, 9, 0);
        Check.run(x, ReasmDisasm.MEM_IMAGE, 1, 9);
        Check.ended("JMP to 9 in the image", x, FAULT, 1, 9);
        Check.run(x, ReasmDisasm.MEM_OUTPUT, 1, 9);
        Check.ended("JMP to 9 in the output", x, HALTED, 2, 9);
    }
}
