/** "The instruction set": the effect of each instruction, to the edges of the table. */
public final class MachineTest {
    private static final int HALTED = ReasmDisasm.RUN_HALTED;
    private static final int FAULT = ReasmDisasm.RUN_FAULT;
    private static final int STEPS = ReasmDisasm.RUN_STEPS;

    public static void main(String[] args) {
        haltAndNop();
        moves();
        addWraps();
        addImmediateWraps();
        loads();
        loadEdges();
        loadPastAShorterImage();
        valuesOut();
        seventeenthValue();
        jumps();
        branchesIfEqual();
        branchesIfNotBelow();
        callsAndReturns();
        ninthCall();
        returnFromNothing();
        tableJumps();
        tableJumpEdges();
        tableJumpPastAShorterImage();
        registerJumps();
        leavesNext();
        inTheOutput();
        faultsInTheOutput();
        Check.end();
    }

    private static void depthIs(String what, ReasmDisasm x, int want) {
        Check.due(what + ": depth", x.runInfo(ReasmDisasm.INFO_DEPTH), want);
    }

    private static void haltAndNop() {
        Check.ended("HALT", Check.ran(0, 9, 0, 1), HALTED, 1, 0);
        Check.ended("NOP", Check.ran(0, 9, 1, 1, 0), HALTED, 3, 2);
    }

    /** MOVI and LEA hold every byte, in every register. */
    private static void moves() {
        for (int b = 0; b <= 255; b++) {
            Check.due("MOVI " + b, Check.ran(0, 1, 2, b % 4, b).runReg(b % 4), b);
            Check.due("LEA " + b, Check.ran(0, 1, 3, b % 4, b).runReg(b % 4), b);
        }
        Check.registersAre("MOVI", Check.ran(0, 9, 2, 0, 255, 2, 1, 1, 2, 3, 128, 0), 255, 1, 0, 128);
        Check.registersAre("LEA", Check.ran(0, 9, 3, 2, 200, 3, 0, 4, 0), 4, 0, 200, 0);
    }

    private static final int[][] SUMS = {
        {0, 0, 0}, {0, 255, 255}, {255, 0, 255}, {254, 1, 255}, {255, 1, 0}, {1, 255, 0}, {128, 128, 0},
        {127, 128, 255}, {200, 57, 1}, {255, 255, 254}, {100, 50, 150},
    };

    /** "R[r]=(R[r]+R[s]) mod 256." */
    private static void addWraps() {
        for (int[] sum : SUMS) {
            ReasmDisasm x = Check.ran(0, 9, 2, 0, sum[0], 2, 1, sum[1], 4, 0, 1, 0);
            Check.registersAre("ADD " + sum[0] + " and " + sum[1], x, sum[2], sum[1], 0, 0);
        }
        for (int b = 0; b <= 255; b++) {
            ReasmDisasm x = Check.ran(0, 9, 2, 3, b, 4, 3, 3, 0);
            Check.registersAre("ADD of " + b + " to itself", x, 0, 0, 0, 2 * b % 256);
        }
    }

    /** "R[r]=(R[r]+k) mod 256." */
    private static void addImmediateWraps() {
        for (int[] sum : SUMS) {
            ReasmDisasm x = Check.ran(0, 9, 2, 2, sum[0], 5, 2, sum[1], 0);
            Check.registersAre("ADDI " + sum[0] + " and " + sum[1], x, 0, 0, sum[2], 0);
        }
    }

    private static void loads() {
        Check.registersAre("LDX", Check.ran(0, 9, 6, 1, 5, 0, 0, 77), 0, 77, 0, 0);
        Check.registersAre("LDX with an index", Check.ran(0, 9, 2, 2, 3, 6, 1, 6, 2, 0, 0, 88), 0, 88, 3, 0);
        // r and s may be one register: the index is read before it is overwritten.
        Check.registersAre("LDX over its index", Check.ran(0, 9, 2, 2, 3, 6, 2, 6, 2, 0, 0, 88), 0, 0, 88, 0);
        Check.registersAre("LDX of its own opcode", Check.ran(0, 1, 6, 3, 0, 0), 0, 0, 0, 6);
    }

    /** Address byte, register, and the position of both in 9 bytes of memory, or -1 if that is past the end. */
    private static final int[][] INDICES = {
        {0, 0, 0}, {8, 0, 8}, {0, 8, 8}, {4, 4, 8}, {9, 0, -1}, {0, 9, -1}, {8, 1, -1}, {255, 0, -1}, {0, 255, -1},
        {255, 1, 0}, {1, 255, 0}, {255, 9, 8}, {9, 255, 8}, {128, 136, 8}, {255, 10, -1}, {10, 255, -1},
        {128, 127, -1}, {255, 255, -1},
    };

    /** "i=(a+R[s]) mod 256; if i>=n: fault; else R[r]=mem[i]." */
    private static void loadEdges() {
        for (int[] index : INDICES) {
            int[] bytes = {2, 3, index[1], 6, 1, index[0], 3, 0, 66};
            ReasmDisasm x = Check.ran(0, 2, bytes);
            String what = "LDX at " + index[0] + " + " + index[1];
            if (index[2] < 0) {
                Check.ended(what, x, FAULT, 1, 3);
                Check.registersAre(what, x, 0, 0, 0, index[1]);
            } else {
                Check.ended(what, x, STEPS, 2, 7);
                Check.registersAre(what, x, 0, bytes[index[2]], 0, index[1]);
            }
        }
        Check.ended("LDX of the last of 64", Check.ran(60, 1, Check.full(6, 0, 63, 0)), STEPS, 1, 64);
        Check.ended("LDX past 64", Check.ran(60, 1, Check.full(6, 0, 64, 0)), FAULT, 0, 60);
    }

    /** What an earlier image held past the end is not read. */
    private static void loadPastAShorterImage() {
        ReasmDisasm x = Check.load(6, 0, 4, 0, 99);
        x.reset();
        Check.put(x, 6, 0, 4, 0);
        Check.run(x, ReasmDisasm.MEM_IMAGE, 0, 9);
        Check.ended("LDX past a shorter image", x, FAULT, 0, 0);
    }

    /** "Append R[r] to the out list." */
    private static void valuesOut() {
        Check.valuesAre("OUT", Check.ran(0, 9, 7, 0, 2, 1, 255, 7, 1, 0), 0, 255);
        Check.registersAre("OUT", Check.ran(0, 9, 2, 1, 255, 7, 1, 0), 0, 255, 0, 0);
    }

    private static final int[] SIXTEEN = {0, 1, 2, 3, 4, 5, 6, 7, 8, 9, 10, 11, 12, 13, 14, 15};

    /** "If 16 values are already out: fault." */
    private static void seventeenthValue() {
        // OUT R0, ADDI R0 1, JMP 0: three steps for each value.
        ReasmDisasm sixteen = Check.ran(0, 46, 7, 0, 5, 0, 1, 8, 0);
        Check.ended("the 16th value", sixteen, STEPS, 46, 2);
        Check.valuesAre("the 16th value", sixteen, SIXTEEN);
        ReasmDisasm full = Check.ran(0, 2000, 7, 0, 5, 0, 1, 8, 0);
        Check.ended("the 17th value", full, FAULT, 48, 0);
        Check.valuesAre("the 17th value", full, SIXTEEN);
        Check.registersAre("the 17th value", full, 16, 0, 0, 0);
    }

    private static void jumps() {
        Check.ended("JMP", Check.ran(0, 9, 8, 3, 99, 0), HALTED, 2, 3);
        Check.ended("JMP back", Check.ran(3, 9, 0, 99, 99, 8, 0), HALTED, 2, 0);
    }

    private static void branch(int op, int value, int k, boolean taken) {
        ReasmDisasm x = Check.ran(0, 9, 2, 1, value, op, 1, k, 8, 0, 0);
        Check.ended("branch " + op + " on " + value + " and " + k, x, HALTED, 3, taken ? 8 : 7);
    }

    private static final int[] BYTES = {0, 1, 2, 126, 127, 128, 129, 200, 254, 255};

    /** "pc=t if R[r]==k, else p+4." */
    private static void branchesIfEqual() {
        for (int value : BYTES) {
            for (int k : BYTES) {
                branch(ReasmDisasm.OP_BEQI, value, k, value == k);
            }
        }
    }

    /** "BGEI compares as unsigned values 0..255." */
    private static void branchesIfNotBelow() {
        for (int value : BYTES) {
            for (int k : BYTES) {
                branch(ReasmDisasm.OP_BGEI, value, k, value >= k);
            }
        }
        branch(ReasmDisasm.OP_BGEI, 255, 127, true);
        branch(ReasmDisasm.OP_BGEI, 127, 128, false);
    }

    private static void callsAndReturns() {
        ReasmDisasm x = Check.ran(0, 9, 11, 4, 0, 99, 2, 0, 9, 12);
        Check.ended("CALL and RET", x, HALTED, 4, 2);
        depthIs("CALL and RET", x, 0);
        depthIs("in a call", Check.ran(0, 9, 11, 3, 99, 0), 1);
        // Nested calls come back in the order last in, first out.
        ReasmDisasm nested = Check.ran(0, 20, 11, 5, 7, 0, 0, 11, 11, 5, 0, 1, 12, 5, 0, 16, 12);
        Check.ended("nested calls", nested, HALTED, 8, 4);
        Check.valuesAre("nested calls", nested, 17);
    }

    /** CALL 3, HALT; at 3 a function that calls itself until R0 is the bound, then counts its returns in R1. */
    private static ReasmDisasm nest(int bound) {
        return Check.ran(0, 2000, 11, 3, 0, 5, 0, 1, 9, 0, bound, 12, 11, 3, 5, 1, 1, 12);
    }

    /** "If stack depth is 8: fault; else push p+2 and set pc=t." */
    private static void ninthCall() {
        ReasmDisasm eight = nest(8);
        Check.ended("eight calls", eight, HALTED, 41, 2);
        Check.registersAre("eight calls", eight, 8, 8, 0, 0);
        depthIs("eight calls", eight, 0);
        ReasmDisasm nine = nest(9);
        Check.ended("nine calls", nine, FAULT, 24, 10);
        Check.registersAre("nine calls", nine, 8, 0, 0, 0);
        depthIs("nine calls", nine, 8);
        ReasmDisasm at = Check.ran(0, 8, 11, 0);
        Check.ended("the eighth call", at, STEPS, 8, 0);
        depthIs("the eighth call", at, 8);
    }

    /** "If stack depth is 0: fault; else pop the top into pc." */
    private static void returnFromNothing() {
        ReasmDisasm bare = Check.ran(0, 9, 1, 12, 0);
        Check.ended("RET on an empty stack", bare, FAULT, 1, 1);
        depthIs("RET on an empty stack", bare, 0);
        // One call and two returns.
        ReasmDisasm twice = Check.ran(1, 9, 12, 11, 0, 12);
        Check.ended("the second RET", twice, FAULT, 2, 3);
        depthIs("the second RET", twice, 0);
    }

    private static void tableJumps() {
        Check.ended("JMPT", Check.ran(0, 9, 2, 3, 1, 13, 3, 6, 99, 8, 0), HALTED, 3, 8);
        Check.registersAre("JMPT", Check.ran(0, 9, 2, 3, 1, 13, 3, 6, 99, 8, 0), 0, 0, 0, 1);
    }

    /** "i=(a+R[r]) mod 256; if i>=n: fault; else pc=mem[i]." */
    private static void tableJumpEdges() {
        for (int[] index : INDICES) {
            int[] bytes = {2, 3, index[1], 13, 3, index[0], 0, 0, 6};
            ReasmDisasm x = Check.ran(0, 2, bytes);
            String what = "JMPT at " + index[0] + " + " + index[1];
            if (index[2] < 0) {
                Check.ended(what, x, FAULT, 1, 3);
            } else {
                Check.ended(what, x, STEPS, 2, bytes[index[2]]);
            }
        }
        Check.ended("JMPT through the last of 64", Check.ran(61, 1, Check.full(13, 0, 63)), STEPS, 1, 63);
        Check.ended("JMPT past 64", Check.ran(61, 1, Check.full(13, 0, 64)), FAULT, 0, 61);
    }

    private static void tableJumpPastAShorterImage() {
        ReasmDisasm x = Check.load(13, 0, 3, 0);
        x.reset();
        Check.put(x, 13, 0, 3);
        Check.run(x, ReasmDisasm.MEM_IMAGE, 0, 9);
        Check.ended("JMPT past a shorter image", x, FAULT, 0, 0);
    }

    /** "pc=R[r]", for every value. */
    private static void registerJumps() {
        Check.ended("JMPR", Check.ran(0, 9, 2, 1, 6, 14, 1, 99, 0), HALTED, 3, 6);
        for (int b = 0; b <= 255; b++) {
            Check.ended("JMPR to " + b, Check.ran(0, 2, 2, 1, b, 14, 1), STEPS, 2, b);
        }
    }

    /** "An instruction that does not set pc leaves pc=p+LEN." */
    private static void leavesNext() {
        int[][] forms = {{1}, {2, 0, 9}, {3, 0, 9}, {4, 0, 1}, {5, 0, 9}, {6, 0, 0, 1}, {7, 0}};
        for (int[] bytes : forms) {
            Check.ended("op " + bytes[0], Check.ran(0, 1, bytes), STEPS, 1, bytes.length);
            int p = 64 - bytes.length;
            Check.ended("op " + bytes[0] + " at the end", Check.ran(p, 1, Check.full(bytes)), STEPS, 1, 64);
        }
    }

    /** Runs the bytes, which stand at 3, in the output, where they stand at 12 and the image has none. */
    private static ReasmDisasm moved(int maxSteps, int... bytes) {
        int[] image = new int[3 + bytes.length];
        System.arraycopy(bytes, 0, image, 3, bytes.length);
        ReasmDisasm x = Check.analysedFrom(new int[] {1, 2, 3}, 3, image);
        Check.due("moved", x.mapAddr(3), 12);
        Check.run(x, ReasmDisasm.MEM_OUTPUT, 3, maxSteps);
        return x;
    }

    /** Every instruction takes its operands from the memory that is run. */
    private static void inTheOutput() {
        Check.ended("HALT", moved(9, 1, 0), HALTED, 2, 13);
        Check.registersAre("MOVI", moved(1, 2, 3, 9), 0, 0, 0, 9);
        Check.registersAre("LEA moves", moved(1, 3, 2, 5), 0, 0, 14, 0);
        Check.registersAre("ADD", moved(3, 2, 1, 5, 2, 2, 6, 4, 1, 2), 0, 11, 6, 0);
        Check.registersAre("ADDI", moved(2, 5, 1, 250, 5, 1, 7), 0, 1, 0, 0);
        Check.registersAre("LDX moves", moved(2, 2, 2, 1, 6, 1, 9, 2, 77), 0, 77, 1, 0);
        Check.valuesAre("OUT", moved(2, 2, 3, 9, 7, 3), 9);
        Check.ended("JMP moves", moved(9, 8, 6, 99, 0), HALTED, 2, 15);
        for (int op = ReasmDisasm.OP_BEQI; op <= ReasmDisasm.OP_BGEI; op++) {
            Check.ended("branch " + op + " moves", moved(9, 2, 1, 5, op, 1, 5, 11, 0, 0), HALTED, 3, 20);
            Check.ended("branch " + op + " not taken", moved(9, 2, 1, 5, op, 1, 6, 11, 0, 0), HALTED, 3, 19);
        }
        // The call at 3 of 6 makes a fourth function, so that 6 lies at 18.
        Check.ended("CALL moves", moved(1, 11, 6, 0, 12), STEPS, 1, 18);
        Check.ended("RET", moved(9, 11, 6, 0, 12), HALTED, 3, 14);
        Check.ended("JMPT", moved(2, 2, 1, 1, 13, 1, 9, 99, 7), STEPS, 2, 7);
        Check.ended("JMPR", moved(2, 2, 1, 77, 14, 1), STEPS, 2, 77);
    }

    /** The fault conditions, too, look at the memory that is run. */
    private static void faultsInTheOutput() {
        Check.ended("LDX past the end", moved(9, 2, 2, 1, 6, 1, 255, 1, 0), FAULT, 1, 15);
        Check.ended("LDX by its index past the end", moved(9, 2, 2, 200, 6, 1, 0, 2, 0), FAULT, 1, 15);
        Check.ended("JMPT past the end", moved(9, 2, 2, 1, 13, 1, 255, 0), FAULT, 1, 15);
        Check.ended("JMPT by its index past the end", moved(9, 2, 2, 200, 13, 2, 0, 0), FAULT, 1, 15);
        Check.ended("RET on an empty stack", moved(9, 12), FAULT, 0, 12);
    }
}
