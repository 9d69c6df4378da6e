/** Promise 6: the classes, and when a table jump is bounded. */
public final class ByteClassTest {
    public static void main(String[] args) {
        outOfReach();
        validity();
        overlaps();
        order();
        boundedTable();
        unboundedTables();
        tableEdges();
        Check.end();
    }

    private static void outOfReach() {
        ReasmDisasm x = Check.load(1, 0, 9);
        Check.due("addEntry(0)", x.addEntry(0), true);
        Check.classesAre("not analysed", x, -1, -1, -1);
        Check.due("analyse(3)", x.analyse(3), true);
        String before = Check.state(x);
        Check.classesAre("analysed", x, 1, 1, 0, -1, -1);
        int[] wrong = {-1, 3, 64, Integer.MIN_VALUE, Integer.MAX_VALUE};
        for (int q : wrong) {
            Check.due("byteClass(" + q + ")", x.byteClass(q), -1);
        }
        Check.same("after byteClass", Check.state(x), before);
    }

    /** One instruction alone in the image: valid at its full length, bad when cut or when a register is 4. */
    private static void validity() {
        int[][] forms = {
            {0}, {1}, {2, 3, 255}, {3, 3, 255}, {4, 3, 3}, {5, 3, 255}, {6, 3, 255, 3}, {7, 3},
            {8, 255}, {9, 3, 255, 255}, {10, 3, 255, 255}, {11, 255}, {12}, {13, 3, 255}, {14, 3},
        };
        int[][] registers = {
            {}, {}, {1}, {1}, {1, 2}, {1}, {1, 3}, {1}, {}, {1}, {1}, {}, {}, {1}, {1},
        };
        for (int op = 0; op < forms.length; op++) {
            int[] bytes = forms[op];
            ReasmDisasm whole = Check.analysed(0, 0, bytes);
            Check.due("op " + op, whole.byteClass(0), ReasmDisasm.CLASS_START);
            Check.due("operands of op " + op, whole.count(ReasmDisasm.CLASS_OPERAND), bytes.length - 1);
            for (int length = 1; length < bytes.length; length++) {
                ReasmDisasm cut = Check.analysed(0, 0, java.util.Arrays.copyOf(bytes, length));
                Check.due("op " + op + " cut to " + length, cut.byteClass(0), ReasmDisasm.CLASS_BAD);
                Check.due("operands of a cut op", cut.count(ReasmDisasm.CLASS_OPERAND), 0);
            }
            for (int at : registers[op]) {
                int[] wrong = bytes.clone();
                wrong[at] = 4;
                Check.due("op " + op + " with register 4", Check.analysed(0, 0, wrong).byteClass(0),
                    ReasmDisasm.CLASS_BAD);
                wrong[at] = 255;
                Check.due("op " + op + " with register 255", Check.analysed(0, 0, wrong).byteClass(0),
                    ReasmDisasm.CLASS_BAD);
            }
        }
        Check.classesAre("opcode 15", Check.analysed(0, 0, 15, 0, 0, 0), 4, 0, 0, 0);
        Check.classesAre("opcode 255", Check.analysed(0, 0, 255, 0, 0, 0), 4, 0, 0, 0);
    }

    private static void overlaps() {
        // The jump at 3 goes into the operands of the MOVI at 0: a NOP and a HALT.
        Check.classesAre("start inside an operand", Check.analysed(0, 0, 2, 1, 0, 8, 1), 1, 1, 1, 1, 2);
        // The branch goes to its own constant, which is a bad opcode.
        Check.classesAre("bad inside an operand", Check.analysed(0, 0, 9, 0, 99, 2, 0), 1, 2, 4, 2, 1);
        // MOVI at 0 falls to 3, which is an operand of MOVI at 1.
        Check.classesAre("fall into an operand", twoEntries(0, 1, 2, 2, 1, 1, 0), 1, 1, 2, 1, 1);
        // The BGEI at 1 is the operand of the JMP at 0, and reaches to the end.
        Check.classesAre("operand that is an entry", twoEntries(0, 1, 8, 10, 2, 2, 0), 1, 1, 2, 2, 2);
        // The LDX at 1 is an entry and what the NOP falls to.
        Check.classesAre("entry reached twice", twoEntries(1, 0, 1, 6, 0, 0, 0), 1, 1, 2, 2, 2);
    }

    private static ReasmDisasm twoEntries(int one, int other, int... bytes) {
        ReasmDisasm x = Check.load(bytes);
        Check.due("addEntry(" + one + ")", x.addEntry(one), true);
        Check.due("addEntry(" + other + ")", x.addEntry(other), true);
        Check.due("analyse(0)", x.analyse(0), true);
        return x;
    }

    /** A table that lies over a start, an operand, a bad byte and a free byte at once. */
    private static void order() {
        // 0 BGEI R0 4 -> 7; 4 JMPT R0 over 7..10; 7 OUT R0; 9 bad; 10 nothing but table; 11 nothing.
        ReasmDisasm x = Check.analysed(0, 0, 10, 0, 4, 7, 13, 0, 7, 7, 0, 99, 200, 0);
        Check.classesAre("order of the rules", x, 1, 2, 2, 2, 1, 2, 2, 1, 2, 4, 3, 0);
    }

    private static void boundedTable() {
        ReasmDisasm x = Check.analysed(0, 0, 10, 2, 2, 11, 13, 2, 7, 9, 10, 0, 0, 0, 0);
        Check.classesAre("bounded", x, 1, 2, 2, 2, 1, 2, 2, 3, 3, 1, 1, 1, 0);
        Check.due("tables", x.count(ReasmDisasm.K_TABLES), 1);
        Check.due("unresolved", x.count(ReasmDisasm.K_UNRESOLVED), 0);
        // The guard's bytes count even where nothing reaches them.
        ReasmDisasm y = Check.analysed(0, 4, 10, 2, 2, 99, 13, 2, 7, 9, 10, 0, 0);
        Check.classesAre("guard not reached", y, 0, 0, 0, 0, 1, 2, 2, 3, 3, 1, 1);
        Check.due("tables", y.count(ReasmDisasm.K_TABLES), 1);
    }

    /** Each differs from a bounded JMPT in one thing alone. */
    private static void unboundedTables() {
        unbounded("another opcode", 9, 2, 2, 11, 13, 2, 7, 9, 10, 0, 0, 0);
        unbounded("another register", 10, 1, 2, 11, 13, 2, 7, 9, 10, 0, 0, 0);
        unbounded("bound 0", 10, 2, 0, 11, 13, 2, 7, 9, 10, 0, 0, 0);
        unbounded("table over the end", 10, 2, 2, 11, 13, 2, 11, 9, 10, 0, 0, 0);
        unbounded("table past the end", 10, 2, 2, 11, 13, 2, 255, 9, 10, 0, 0, 0);
    }

    private static void unbounded(String what, int... bytes) {
        ReasmDisasm x = Check.analysed(0, 4, bytes);
        Check.classesAre(what, x, 0, 0, 0, 0, 1, 2, 2, 0, 0, 0, 0, 0);
        Check.due(what + ": tables", x.count(ReasmDisasm.K_TABLES), 0);
        Check.due(what + ": unresolved", x.count(ReasmDisasm.K_UNRESOLVED), 1);
    }

    private static void tableEdges() {
        for (int bound = 0; bound <= 18; bound++) {
            int[] bytes = new int[40];
            int[] head = {10, 1, bound, 0, 13, 1, 10};
            System.arraycopy(head, 0, bytes, 0, head.length);
            java.util.Arrays.fill(bytes, 10, 40, 255);
            ReasmDisasm x = Check.analysed(0, 4, bytes);
            int want = bound >= 1 && bound <= 16 ? bound : 0;
            Check.due("table of bound " + bound, x.count(ReasmDisasm.CLASS_TABLE), want);
            Check.due("tables at bound " + bound, x.count(ReasmDisasm.K_TABLES), want > 0 ? 1 : 0);
        }
        ReasmDisasm last = Check.analysed(0, 4, 10, 2, 2, 11, 13, 2, 7, 200, 201);
        Check.classesAre("table up to the end", last, 0, 0, 0, 0, 1, 2, 2, 3, 3);
        ReasmDisasm over = Check.analysed(0, 4, 10, 2, 3, 11, 13, 2, 7, 200, 201);
        Check.classesAre("table one over the end", over, 0, 0, 0, 0, 1, 2, 2, 0, 0);
        ReasmDisasm early = Check.analysed(0, 3, 2, 2, 1, 13, 2, 0, 0, 0);
        Check.due("JMPT at 3", early.count(ReasmDisasm.K_UNRESOLVED), 1);
        ReasmDisasm first = Check.analysed(0, 0, 13, 2, 0, 0, 0);
        Check.due("JMPT at 0", first.count(ReasmDisasm.K_UNRESOLVED), 1);
        ReasmDisasm zero = Check.analysed(0, 4, 10, 0, 1, 11, 13, 0, 0);
        Check.due("table at address 0", zero.byteClass(0), ReasmDisasm.CLASS_TABLE);
    }
}
