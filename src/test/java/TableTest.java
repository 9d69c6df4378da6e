/** "The analysis": when a JMPT is bounded, and its table. Each method holds to the sentence above it. */
public final class TableTest {
    public static void main(String[] args) {
        bounded();
        guardNotReached();
        earlyAddresses();
        guardOpcode();
        guardRegister();
        bounds();
        tableEnds();
        tablePositions();
        guardElsewhere();
        notValid();
        notReached();
        bytesPastTheEnd();
        Check.end();
    }

    private static void isBounded(String what, ReasmDisasm x, boolean want) {
        Check.due(what + ": tables", x.count(ReasmDisasm.K_TABLES), want ? 1 : 0);
        Check.due(what + ": unresolved", x.count(ReasmDisasm.K_UNRESOLVED), want ? 0 : 1);
    }

    /** A guard with the four bytes, a JMPT R2 at 4 over the table from 7, and free bytes. */
    private static ReasmDisasm guarded(int op, int r, int k) {
        return Check.analysed(0, 4, op, r, k, 99, 13, 2, 7, 200, 201, 202, 203, 204, 205, 206, 207,
            208, 209, 210, 211, 212, 213, 214, 215, 216, 217, 218);
    }

    private static void bounded() {
        ReasmDisasm x = Check.analysed(0, 0, 10, 2, 2, 11, 13, 2, 7, 9, 10, 0, 0, 0, 0);
        Check.classesAre("bounded", x, 1, 2, 2, 2, 1, 2, 2, 3, 3, 1, 1, 1, 0);
        isBounded("bounded", x, true);
    }

    /** "The test looks at those bytes whether or not they are reached." */
    private static void guardNotReached() {
        ReasmDisasm x = Check.analysed(0, 4, 10, 2, 2, 99, 13, 2, 7, 9, 10, 0, 0);
        Check.classesAre("guard not reached", x, 0, 0, 0, 0, 1, 2, 2, 3, 3, 1, 1);
        isBounded("guard not reached", x, true);
        // The last byte of one MOVI and the first two of the next are the guard.
        ReasmDisasm y = Check.analysed(0, 0, 2, 1, 10, 2, 1, 1, 13, 2, 9, 0);
        Check.classesAre("guard in other instructions", y, 1, 2, 2, 1, 2, 2, 1, 2, 2, 3);
        isBounded("guard in other instructions", y, true);
    }

    /** "p>=4." */
    private static void earlyAddresses() {
        for (int p = 0; p <= 3; p++) {
            int[] bytes = new int[12];
            int[] guard = {10, 2, 1, 99};
            // As much of a guard as there is room for.
            for (int i = 0; i < p; i++) {
                bytes[p - 1 - i] = guard[3 - i];
            }
            bytes[p] = 13;
            bytes[p + 1] = 2;
            bytes[p + 2] = 10;
            isBounded("JMPT at " + p, Check.analysed(0, p, bytes), false);
        }
        isBounded("JMPT at 4", Check.analysed(0, 4, 10, 2, 1, 99, 13, 2, 7, 0), true);
        isBounded("JMPT at 5", Check.analysed(0, 5, 0, 10, 2, 1, 99, 13, 2, 8, 0), true);
        isBounded("JMPT at 61", Check.analysed(0, 61, Check.full(10, 2, 1, 99, 13, 2, 0)), true);
    }

    /** "`image[p-4]==10`." */
    private static void guardOpcode() {
        for (int op = 0; op <= 255; op++) {
            isBounded("guard opcode " + op, guarded(op, 2, 3), op == 10);
        }
    }

    /** "`image[p-3]==r`." */
    private static void guardRegister() {
        for (int r = 0; r <= 255; r++) {
            isBounded("guard register " + r, guarded(10, r, 3), r == 2);
        }
        for (int r = 0; r <= 3; r++) {
            for (int other = 0; other <= 3; other++) {
                ReasmDisasm x = Check.analysed(0, 4, 10, other, 1, 99, 13, r, 7, 0);
                isBounded("registers " + other + " and " + r, x, other == r);
            }
        }
    }

    /** "`k=image[p-2]` is 1..16." */
    private static void bounds() {
        for (int k = 0; k <= 255; k++) {
            ReasmDisasm x = guarded(10, 2, k);
            boolean want = k >= 1 && k <= 16;
            isBounded("bound " + k, x, want);
            Check.due("table of bound " + k, x.count(ReasmDisasm.CLASS_TABLE), want ? k : 0);
        }
    }

    /** "`a+k<=SIZE`", without wrap-around, in a short image and in a full one. */
    private static void tableEnds() {
        for (int size : new int[] {30, 64}) {
            for (int k = 1; k <= 16; k++) {
                for (int a = 0; a <= 255; a++) {
                    ReasmDisasm x = Check.analysed(3, 4, tableJump(k, a, new int[size]));
                    isBounded("table at " + a + " of " + k + " in " + size, x, a + k <= size);
                }
            }
        }
    }

    /** Writes a guard and a JMPT R1 at 4 over the first bytes. */
    private static int[] tableJump(int k, int a, int[] bytes) {
        int[] head = {10, 1, k, 99, 13, 1, a};
        System.arraycopy(head, 0, bytes, 0, head.length);
        return bytes;
    }

    /** "Its table is then positions a..a+k-1." */
    private static void tablePositions() {
        for (int k = 1; k <= 16; k++) {
            for (int a = 7; a + k <= 40; a++) {
                int[] bytes = new int[40];
                java.util.Arrays.fill(bytes, 200);
                ReasmDisasm x = Check.analysed(0, 4, tableJump(k, a, bytes));
                for (int q = 7; q < 40; q++) {
                    boolean in = a <= q && q <= a + k - 1;
                    Check.due("table at " + a + " of " + k + ": byteClass(" + q + ")", x.byteClass(q),
                        in ? ReasmDisasm.CLASS_TABLE : ReasmDisasm.CLASS_NONE);
                }
            }
        }
        ReasmDisasm zero = Check.analysed(0, 4, 10, 0, 1, 11, 13, 0, 0);
        Check.classesAre("table at address 0", zero, 3, 0, 0, 0, 1, 2, 2);
    }

    /** The guard stands just before the jump: one byte nearer or farther is none. */
    private static void guardElsewhere() {
        isBounded("one byte between", Check.analysed(0, 5, 10, 2, 1, 99, 1, 13, 2, 8, 0), false);
        isBounded("one byte nearer", Check.analysed(0, 4, 1, 10, 2, 1, 13, 2, 7, 0), false);
        isBounded("after the jump", Check.analysed(0, 4, 1, 1, 1, 1, 13, 2, 11, 10, 2, 1, 99, 0), false);
    }

    /** Only a valid JMPT can be bounded. */
    private static void notValid() {
        ReasmDisasm register = Check.analysed(0, 4, 10, 4, 1, 99, 13, 4, 7, 0);
        Check.classesAre("wrong register", register, 0, 0, 0, 0, 4, 0, 0, 0);
        Check.due("wrong register: tables", register.count(ReasmDisasm.K_TABLES), 0);
        Check.due("wrong register: unresolved", register.count(ReasmDisasm.K_UNRESOLVED), 0);
        ReasmDisasm cut = Check.analysed(0, 4, 10, 0, 1, 99, 13, 0);
        Check.classesAre("cut", cut, 0, 0, 0, 0, 4, 0);
        Check.due("cut: tables", cut.count(ReasmDisasm.K_TABLES), 0);
        Check.due("cut: unresolved", cut.count(ReasmDisasm.K_UNRESOLVED), 0);
        ReasmDisasm full = Check.analysed(0, 62, Check.full(10, 0, 1, 99, 13, 0));
        Check.due("cut, full: tables", full.count(ReasmDisasm.K_TABLES), 0);
    }

    /** "A valid `JMPT r a` at p in S": one that is not reached has no table, though its guard stands. */
    private static void notReached() {
        ReasmDisasm x = Check.analysed(0, 7, 10, 2, 2, 99, 13, 2, 8, 0, 4, 200);
        Check.classesAre("not reached", x, 0, 0, 0, 0, 0, 0, 0, 1, 0, 0);
        Check.due("not reached: tables", x.count(ReasmDisasm.K_TABLES), 0);
        Check.due("not reached: unresolved", x.count(ReasmDisasm.K_UNRESOLVED), 0);
        Check.symbolsAre("not reached", x);
        // Once it is an entry too, the table at 8 and 9 is one.
        Check.enter(x, 4);
        Check.analyse(x, 0);
        Check.classesAre("reached", x, 0, 0, 0, 0, 1, 2, 2, 1, 3, 3);
        isBounded("reached", x, true);
        Check.symbolsAre("reached", x, 6, 8);
    }

    /** A table that an earlier, longer image held past the end of this one is none. */
    private static void bytesPastTheEnd() {
        ReasmDisasm x = Check.load(10, 2, 2, 99, 13, 2, 7, 0, 0);
        x.reset();
        Check.put(x, 10, 2, 2, 99, 13, 2, 7, 0);
        Check.enter(x, 4);
        Check.analyse(x, 0);
        isBounded("shorter image", x, false);
        Check.put(x, 0);
        Check.analyse(x, 0);
        isBounded("once the image is long enough", x, true);
    }
}
