/** Promise 6, and the classes of "The analysis". Each method holds to the sentence above it. */
public final class ByteClassTest {
    public static void main(String[] args) {
        notAnalysed();
        outOfReach();
        fullImage();
        start();
        bad();
        operandEdges();
        operandsOfValidOnly();
        overlaps();
        table();
        order();
        changesNothing();
        Check.end();
    }

    /** "It answers -1 if not analysed." */
    private static void notAnalysed() {
        ReasmDisasm x = Check.load(1, 0, 9);
        Check.classesAre("no entries", x, -1, -1, -1, -1);
        Check.enter(x, 0);
        Check.classesAre("not analysed", x, -1, -1, -1, -1);
        Check.analyse(x, 3);
        Check.classesAre("analysed", x, 1, 1, 0, -1);
        Check.enter(x, 1);
        Check.classesAre("after addEntry", x, -1, -1, -1, -1);
    }

    /** "Or if q<0 or q>=SIZE." */
    private static void outOfReach() {
        ReasmDisasm x = Check.analysed(3, 1, 0, 1, 0);
        for (int q : Check.outside(0, 3)) {
            Check.due("byteClass(" + q + ")", x.byteClass(q), -1);
        }
        for (int q = 3; q <= 256; q++) {
            Check.due("byteClass(" + q + ")", x.byteClass(q), -1);
        }
    }

    private static void fullImage() {
        ReasmDisasm x = Check.analysed(3, 0, Check.full(99));
        Check.due("byteClass(0)", x.byteClass(0), ReasmDisasm.CLASS_START);
        Check.due("byteClass(62)", x.byteClass(62), ReasmDisasm.CLASS_START);
        Check.due("byteClass(63)", x.byteClass(63), ReasmDisasm.CLASS_BAD);
        Check.due("byteClass(64)", x.byteClass(64), -1);
    }

    /** "START if q is in S and valid." */
    private static void start() {
        Check.classesAre("start", Check.analysed(0, 1, 0, 1, 0, 0), 0, 1, 1, 0);
    }

    /** "BAD if q is in S (and not valid)." */
    private static void bad() {
        Check.classesAre("opcode 15", Check.analysed(0, 0, 15, 0, 0, 0), 4, 0, 0, 0);
        Check.classesAre("opcode 255", Check.analysed(0, 1, 0, 255, 0, 0), 0, 4, 0, 0);
        Check.classesAre("cut", Check.analysed(0, 2, 0, 0, 6, 0, 0), 0, 0, 4, 0, 0);
    }

    /** "OPERAND if p<q<p+LEN": from the byte after p to the last of the instruction, and no farther. */
    private static void operandEdges() {
        Check.classesAre("length 1", Check.analysed(0, 1, 0, 12, 0, 0, 0, 0), 0, 1, 0, 0, 0, 0);
        Check.classesAre("length 2", Check.analysed(0, 1, 0, 14, 0, 0, 0, 0), 0, 1, 2, 0, 0, 0);
        Check.classesAre("length 3", Check.analysed(0, 1, 0, 13, 0, 0, 0, 0), 0, 1, 2, 2, 0, 0);
        Check.classesAre("length 4", Check.analysed(0, 1, 0, 9, 0, 0, 99, 99), 0, 1, 2, 2, 2, 4);
    }

    /** "For some valid p in S": not after a bad one, nor after one that is not reached. */
    private static void operandsOfValidOnly() {
        Check.classesAre("after a bad one", Check.analysed(0, 0, 2, 4, 0, 0), 4, 0, 0, 0);
        Check.classesAre("not reached", Check.analysed(0, 3, 2, 0, 0, 0), 0, 0, 0, 1);
    }

    private static void overlaps() {
        // The jump at 3 goes into the operands of the MOVI at 0: a NOP and a HALT.
        Check.classesAre("start inside an operand", Check.analysed(0, 0, 2, 1, 0, 8, 1), 1, 1, 1, 1, 2);
        // The branch goes to its own constant, which is a bad opcode.
        Check.classesAre("bad inside an operand", Check.analysed(0, 0, 9, 0, 99, 2, 0), 1, 2, 4, 2, 1);
        // MOVI at 0 falls to 3, which is an operand of MOVI at 1.
        Check.classesAre("fall into an operand", both(0, 1, 2, 2, 1, 1, 0), 1, 1, 2, 1, 1);
        // The BGEI at 1 is the operand of the JMP at 0, and reaches to the end.
        Check.classesAre("operand that is an entry", both(0, 1, 8, 10, 2, 2, 0), 1, 1, 2, 2, 2);
        // The LDX at 1 is an entry and what the NOP falls to.
        Check.classesAre("entry reached twice", both(1, 0, 1, 6, 0, 0, 0), 1, 1, 2, 2, 2);
    }

    private static ReasmDisasm both(int one, int other, int... bytes) {
        return Check.analysedFrom(new int[] {one, other}, 0, bytes);
    }

    /** "TABLE if q lies in the table of some bounded JMPT in S", and "NONE otherwise". */
    private static void table() {
        ReasmDisasm x = Check.analysed(0, 4, 10, 2, 2, 99, 13, 2, 8, 200, 201, 202, 203);
        Check.classesAre("table", x, 0, 0, 0, 0, 1, 2, 2, 0, 3, 3, 0);
        ReasmDisasm last = Check.analysed(0, 4, 10, 2, 2, 99, 13, 2, 7, 200, 201);
        Check.classesAre("table up to the end", last, 0, 0, 0, 0, 1, 2, 2, 3, 3);
        ReasmDisasm over = Check.analysed(0, 4, 10, 2, 3, 99, 13, 2, 7, 200, 201);
        Check.classesAre("table one over the end", over, 0, 0, 0, 0, 1, 2, 2, 0, 0);
    }

    /** "First rule that applies": a table that lies over a start, an operand, a bad byte and a free byte at once. */
    private static void order() {
        // 0 BGEI R0 4 -> 7; 4 JMPT R0 over 7..10; 7 OUT R0; 9 bad; 10 nothing but table; 11 nothing.
        ReasmDisasm x = Check.analysed(0, 0, 10, 0, 4, 7, 13, 0, 7, 7, 0, 99, 200, 0);
        Check.classesAre("order of the rules", x, 1, 2, 2, 2, 1, 2, 2, 1, 2, 4, 3, 0);
        // There the operand lies behind the table jump, here before it.
        ReasmDisasm before = Check.analysedFrom(new int[] {0, 7}, 0, 2, 0, 200, 10, 0, 1, 99, 13, 0, 2);
        Check.classesAre("operand before the jump", before, 1, 2, 2, 1, 2, 2, 2, 1, 2, 2);
    }

    /** "It changes nothing." */
    private static void changesNothing() {
        ReasmDisasm x = Check.analysed(3, 0, 1, 0, 9);
        Check.run(x, ReasmDisasm.MEM_OUTPUT, 0, 9);
        String before = Check.state(x);
        for (int q = -1; q <= 4; q++) {
            x.byteClass(q);
        }
        Check.same("after byteClass", Check.state(x), before);
    }
}
