/** Promise 8, and what is symbolic in "The analysis". Each method holds to the sentence above it. */
public final class SymbolTest {
    public static void main(String[] args) {
        slots();
        belowSize();
        belowSizeInAFullImage();
        everySlotBelowSize();
        tables();
        tableEdges();
        onlyReached();
        notAnalysed();
        outOfReach();
        changesNothing();
        Check.end();
    }

    /** "Address slots of the instruction at p ... Other opcodes have none." */
    private static void slots() {
        Check.symbolsAre("HALT", Check.analysed(0, 0, 0, 0, 0, 0));
        Check.symbolsAre("NOP", Check.analysed(0, 0, 1, 0, 0, 0));
        Check.symbolsAre("MOVI", Check.analysed(0, 0, 2, 0, 0, 0));
        Check.symbolsAre("LEA", Check.analysed(0, 0, 3, 0, 0, 0), 2);
        Check.symbolsAre("ADD", Check.analysed(0, 0, 4, 0, 0, 0));
        Check.symbolsAre("ADDI", Check.analysed(0, 0, 5, 0, 0, 0));
        Check.symbolsAre("LDX", Check.analysed(0, 0, 6, 0, 0, 0), 2);
        Check.symbolsAre("OUT", Check.analysed(0, 0, 7, 0, 0, 0));
        Check.symbolsAre("JMP", Check.analysed(0, 0, 8, 2, 0, 0), 1);
        Check.symbolsAre("BEQI", Check.analysed(0, 0, 9, 0, 0, 0), 3);
        Check.symbolsAre("BGEI", Check.analysed(0, 0, 10, 0, 0, 0), 3);
        Check.symbolsAre("CALL", Check.analysed(0, 0, 11, 2, 0, 0), 1);
        Check.symbolsAre("RET", Check.analysed(0, 0, 12, 0, 0, 0));
        Check.symbolsAre("JMPT", Check.analysed(0, 0, 13, 0, 0, 0), 2);
        Check.symbolsAre("JMPR", Check.analysed(0, 0, 14, 0, 0, 0));
    }

    /** "`image[q]<SIZE`": the last address is symbolic, SIZE and all above it are not. */
    private static void belowSize() {
        for (int b = 0; b <= 255; b++) {
            int[] want = b < 4 ? new int[] {2} : new int[] {};
            Check.symbolsAre("LEA of " + b, Check.analysed(1, 0, 3, 0, b, 0), want);
        }
    }

    private static void belowSizeInAFullImage() {
        Check.symbolsAre("full, the last address", Check.analysed(1, 0, Check.full(3, 0, 63)), 63);
        Check.symbolsAre("full, the size", Check.analysed(1, 0, Check.full(3, 0, 64)));
        Check.symbolsAre("full, 255", Check.analysed(1, 0, Check.full(3, 0, 255)));
    }

    private static void everySlotBelowSize() {
        int[][] forms = {
            {3, 0, 0}, {6, 0, 0, 0}, {8, 0}, {9, 0, 0, 0}, {10, 0, 0, 0}, {11, 0}, {13, 0, 0},
        };
        int[] slots = {2, 2, 1, 3, 3, 1, 2};
        for (int i = 0; i < forms.length; i++) {
            int[] bytes = forms[i].clone();
            bytes[slots[i]] = bytes.length - 1;
            Check.symbolsAre("op " + bytes[0] + ", the last", Check.analysed(0, 0, bytes), slots[i]);
            bytes[slots[i]] = bytes.length;
            Check.symbolsAre("op " + bytes[0] + ", the size", Check.analysed(0, 0, bytes));
            bytes[slots[i]] = 255;
            Check.symbolsAre("op " + bytes[0] + ", 255", Check.analysed(0, 0, bytes));
        }
    }

    /** "Or in the table of some bounded JMPT in S." */
    private static void tables() {
        ReasmDisasm x = Check.analysed(1, 4, 10, 1, 4, 0, 13, 1, 7, 11, 12, 10, 200, 0);
        // Of the table at 7..10 the value 12 equals the size and 200 is above it.
        Check.symbolsAre("table", x, 6, 7, 9);
        ReasmDisasm unbounded = Check.analysed(1, 4, 10, 2, 4, 0, 13, 1, 7, 11, 12, 10, 200, 0);
        Check.symbolsAre("unbounded", unbounded, 6);
    }

    private static void tableEdges() {
        Check.symbolsAre("table of one", Check.analysed(1, 4, 10, 1, 1, 0, 13, 1, 7, 4, 4), 6, 7);
        Check.symbolsAre("full, table of the last", Check.analysed(1, 61, Check.full(10, 1, 1, 0, 13, 1, 63)), 63);
        // The table lies over the instruction's own bytes.
        ReasmDisasm own = Check.analysed(1, 4, 10, 1, 3, 0, 13, 1, 4);
        Check.symbolsAre("table over its own jump", own, 5, 6);
        int[] sixteen = new int[24];
        int[] head = {10, 1, 16, 99, 13, 1, 7};
        System.arraycopy(head, 0, sixteen, 0, head.length);
        java.util.Arrays.fill(sixteen, 7, 24, 23);
        // Position 23 is no part of the table 7..22.
        Check.symbolsAre("table of sixteen", Check.analysed(1, 4, sixteen),
            6, 7, 8, 9, 10, 11, 12, 13, 14, 15, 16, 17, 18, 19, 20, 21, 22);
    }

    /** "An address slot of some valid p in S." */
    private static void onlyReached() {
        Check.symbolsAre("slot of one not reached", Check.analysed(1, 0, 0, 8, 0, 3, 0, 0));
        Check.symbolsAre("slot of one not valid", Check.analysed(1, 0, 3, 4, 0, 0, 0));
        // A slot that is reached itself stays symbolic.
        ReasmDisasm x = Check.analysed(1, 1, 1, 8, 2);
        Check.due("slot and bad", x.byteClass(2), ReasmDisasm.CLASS_BAD);
        Check.symbolsAre("slot and bad", x, 2);
        ReasmDisasm y = Check.analysed(1, 0, 8, 1);
        Check.due("slot and start", y.byteClass(1), ReasmDisasm.CLASS_START);
        Check.symbolsAre("slot and start", y, 1);
    }

    /** "It answers false if not analysed." */
    private static void notAnalysed() {
        ReasmDisasm x = Check.load(8, 0);
        Check.due("no entries", x.isSymbolic(1), false);
        Check.enter(x, 0);
        Check.due("not analysed", x.isSymbolic(1), false);
        Check.analyse(x, 0);
        Check.due("analysed", x.isSymbolic(1), true);
        Check.put(x, 0);
        Check.due("analysis cleared", x.isSymbolic(1), false);
    }

    /** "Or if q<0 or q>=SIZE", also where an earlier image had a symbol. */
    private static void outOfReach() {
        ReasmDisasm x = Check.analysed(3, 0, 8, 0);
        for (int q : Check.outside(0, 2)) {
            Check.due("isSymbolic(" + q + ")", x.isSymbolic(q), false);
        }
        x.reset();
        Check.put(x, 0);
        Check.enter(x, 0);
        Check.analyse(x, 0);
        Check.due("isSymbolic(1) of a shorter image", x.isSymbolic(1), false);
        ReasmDisasm full = Check.analysed(3, 62, Check.full(8, 0));
        Check.due("isSymbolic(63)", full.isSymbolic(63), true);
        Check.due("isSymbolic(64)", full.isSymbolic(64), false);
    }

    /** "It changes nothing." */
    private static void changesNothing() {
        ReasmDisasm x = Check.analysed(3, 0, 8, 0);
        Check.run(x, ReasmDisasm.MEM_OUTPUT, 0, 9);
        String before = Check.state(x);
        for (int q = -1; q <= 3; q++) {
            x.isSymbolic(q);
        }
        Check.same("after isSymbolic", Check.state(x), before);
    }
}
