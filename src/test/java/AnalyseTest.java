/** Promise 5, and the reached set that the analysis rests on. */
public final class AnalyseTest {
    // MOVI, CALL, OUT, HALT, a table, then a guarded table jump with its three cases and a byte of data.
    private static final int[] PROGRAM = {
        2, 0, 2, 11, 11, 7, 0, 0, 18, 22, 23, 10, 0, 3, 22, 13, 0, 8, 5, 0, 10, 12, 12, 6, 0, 28, 1, 12, 77,
    };

    public static void main(String[] args) {
        refuses();
        refusalKeepsTheEarlierOne();
        replacesTheEarlierOne();
        keepsTheRest();
        consequences();
        successors();
        farChain();
        Check.end();
    }

    private static void refuses() {
        ReasmDisasm x = new ReasmDisasm(64);
        Check.due("analyse on an empty image", x.analyse(0), false);
        Check.put(x, 0);
        Check.due("analyse without entries", x.analyse(0), false);
        Check.due("addEntry(0)", x.addEntry(0), true);
        int[] wrong = {-1, 4, 5, Integer.MIN_VALUE, Integer.MAX_VALUE};
        for (int pad : wrong) {
            Check.due("analyse(" + pad + ")", x.analyse(pad), false);
            Check.due("outSize() after a refusal", x.outSize(), -1);
        }
        for (int pad = 0; pad <= 3; pad++) {
            Check.due("analyse(" + pad + ")", x.analyse(pad), true);
        }
    }

    private static void refusalKeepsTheEarlierOne() {
        ReasmDisasm x = Check.analysed(3, 0, PROGRAM);
        Check.due("run", x.run(1, 0, 500), true);
        String before = Check.state(x);
        Check.due("analyse(-1)", x.analyse(-1), false);
        Check.same("refused analyse(-1)", Check.state(x), before);
        Check.due("analyse(4)", x.analyse(4), false);
        Check.same("refused analyse(4)", Check.state(x), before);
    }

    private static void replacesTheEarlierOne() {
        ReasmDisasm x = Check.analysed(3, 0, PROGRAM);
        Check.due("analyse(1)", x.analyse(1), true);
        Check.same("second analysis", Check.state(x), Check.state(Check.analysed(1, 0, PROGRAM)));
        ReasmDisasm y = Check.analysed(3, 0, 8, 3, 255, 11, 6, 0, 0);
        y.reset();
        Check.put(y, 0, 1, 2, 3, 4, 5, 6);
        Check.due("addEntry(0)", y.addEntry(0), true);
        Check.due("analyse(3)", y.analyse(3), true);
        Check.same("analysis of another image", Check.state(y),
            Check.state(Check.analysed(3, 0, 0, 1, 2, 3, 4, 5, 6)));
        // A table at address 0, then an image where nothing is symbolic.
        ReasmDisasm z = Check.analysed(1, 8, 1, 0, 8, 8, 10, 0, 4, 0, 13, 0, 0);
        Check.due("table at 0", z.isSymbolic(0), true);
        z.reset();
        Check.put(z, 0, 0);
        Check.due("addEntry(1)", z.addEntry(1), true);
        Check.due("analyse(1)", z.analyse(1), true);
        Check.same("analysis without symbols", Check.state(z), Check.state(Check.analysed(1, 1, 0, 0)));
    }

    private static void keepsTheRest() {
        ReasmDisasm x = Check.load(PROGRAM);
        Check.due("addEntry(0)", x.addEntry(0), true);
        Check.due("run", x.run(0, 0, 500), true);
        String run = Check.runState(x);
        Check.due("analyse(2)", x.analyse(2), true);
        Check.same("run state after analyse", Check.runState(x), run);
        Check.due("size after analyse", x.count(ReasmDisasm.K_SIZE), PROGRAM.length);
        Check.due("entries after analyse", x.count(ReasmDisasm.K_ENTRIES), 1);
        Check.imageIs("image after analyse", x, PROGRAM);
    }

    private static void consequences() {
        for (int pad = 0; pad <= 3; pad++) {
            for (int entry = 0; entry < PROGRAM.length; entry++) {
                ReasmDisasm x = Check.analysed(pad, entry, PROGRAM);
                int funcs = x.count(ReasmDisasm.K_FUNCS) - (x.isFunctionStart(0) ? 1 : 0);
                Check.due("outSize()", x.outSize(), PROGRAM.length + pad * funcs);
                for (int q = 0; q < PROGRAM.length; q++) {
                    if (!x.isSymbolic(q)) {
                        Check.due("outByte(mapAddr(q))", x.outByte(x.mapAddr(q)), PROGRAM[q]);
                    }
                    if (pad == 0) {
                        Check.due("mapAddr(q)", x.mapAddr(q), q);
                        Check.due("outByte(q)", x.outByte(q), PROGRAM[q]);
                    }
                }
            }
        }
    }

    private static void reaches(String what, int[] bytes, int... reached) {
        ReasmDisasm x = Check.analysed(0, 0, bytes);
        for (int q = 0; q < bytes.length; q++) {
            int got = x.byteClass(q);
            boolean inS = got == ReasmDisasm.CLASS_START || got == ReasmDisasm.CLASS_BAD;
            Check.due(what + ": " + q + " is reached", inS, Check.contains(reached, q));
        }
    }

    private static void successors() {
        reaches("HALT", new int[] {0, 0, 0, 0, 0, 0}, 0);
        reaches("NOP", new int[] {1, 0, 0, 0, 0, 0}, 0, 1);
        reaches("MOVI", new int[] {2, 0, 5, 0, 0, 0}, 0, 3);
        reaches("LEA", new int[] {3, 0, 5, 0, 0, 0}, 0, 3);
        reaches("ADD", new int[] {4, 0, 1, 0, 0, 0}, 0, 3);
        reaches("ADDI", new int[] {5, 0, 5, 0, 0, 0}, 0, 3);
        reaches("LDX", new int[] {6, 0, 5, 0, 0, 0}, 0, 4);
        reaches("OUT", new int[] {7, 0, 0, 0, 0, 0}, 0, 2);
        reaches("JMP", new int[] {8, 4, 0, 0, 0, 0}, 0, 4);
        reaches("JMP to the size", new int[] {8, 6, 0, 0, 0, 0}, 0);
        reaches("JMP to the last", new int[] {8, 5, 0, 0, 0, 0}, 0, 5);
        reaches("JMP far out", new int[] {8, 255, 0, 0, 0, 0}, 0);
        reaches("BEQI", new int[] {9, 0, 2, 5, 0, 0}, 0, 4, 5);
        reaches("BGEI", new int[] {10, 0, 2, 5, 0, 0}, 0, 4, 5);
        reaches("CALL", new int[] {11, 4, 0, 0, 0, 0}, 0, 2, 4);
        reaches("RET", new int[] {12, 0, 0, 0, 0, 0}, 0);
        reaches("JMPT unbounded", new int[] {13, 0, 4, 0, 5, 0}, 0);
        reaches("JMPR", new int[] {14, 0, 0, 0, 0, 0}, 0);
        reaches("a bad opcode", new int[] {15, 0, 0, 0, 0, 0}, 0);
        reaches("fall off the end", new int[] {1, 1, 1, 1, 1, 1}, 0, 1, 2, 3, 4, 5);
        reaches("into a bad one", new int[] {8, 3, 0, 99, 0, 0}, 0, 3);
    }

    /** Each jump goes to the one two below it, so an analysis that stops early loses the far end. */
    private static void farChain() {
        int[] bytes = new int[64];
        bytes[0] = 8;
        bytes[1] = 62;
        for (int p = 2; p < 64; p += 2) {
            bytes[p] = 8;
            bytes[p + 1] = p - 2;
        }
        ReasmDisasm x = Check.analysed(0, 0, bytes);
        Check.due("far chain", x.count(ReasmDisasm.CLASS_START), 32);
        Check.due("far chain", x.count(ReasmDisasm.CLASS_OPERAND), 32);
    }
}
