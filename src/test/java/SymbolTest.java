/** Promise 8. */
public final class SymbolTest {
    public static void main(String[] args) {
        slots();
        addressesOutOfTheImage();
        tables();
        onlyReached();
        outOfReach();
        Check.end();
    }

    private static void slots() {
        Check.symbolsAre("HALT", Check.analysed(0, 0, 0, 0, 0, 0));
        Check.symbolsAre("NOP", Check.analysed(0, 0, 1, 0, 0, 0));
        Check.symbolsAre("MOVI", Check.analysed(0, 0, 2, 0, 0, 0));
        Check.symbolsAre("LEA", Check.analysed(0, 0, 3, 0, 0, 0), 2);
        Check.symbolsAre("ADD", Check.analysed(0, 0, 4, 0, 0, 0));
        Check.symbolsAre("ADDI", Check.analysed(0, 0, 5, 0, 0, 0));
        Check.symbolsAre("LDX", Check.analysed(0, 0, 6, 0, 0, 0), 2);
        Check.symbolsAre("OUT", Check.analysed(0, 0, 7, 0, 0, 0));
        Check.symbolsAre("JMP", Check.analysed(0, 0, 8, 2, 0, 0), 1);
        Check.symbolsAre("BEQI", Check.analysed(0, 0, 9, 0, 0, 0), 3);
        Check.symbolsAre("BGEI", Check.analysed(0, 0, 10, 0, 0, 0), 3);
        Check.symbolsAre("CALL", Check.analysed(0, 0, 11, 2, 0, 0), 1);
        Check.symbolsAre("RET", Check.analysed(0, 0, 12, 0, 0, 0));
        Check.symbolsAre("JMPT", Check.analysed(0, 0, 13, 0, 0, 0), 2);
        Check.symbolsAre("JMPR", Check.analysed(0, 0, 14, 0, 0, 0));
    }

    private static void addressesOutOfTheImage() {
        Check.symbolsAre("the last address", Check.analysed(1, 0, 3, 0, 3, 0), 2);
        Check.symbolsAre("the size", Check.analysed(1, 0, 3, 0, 4, 0));
        Check.symbolsAre("full, the last address", Check.analysed(1, 0, Check.full(3, 0, 63)), 63);
        Check.symbolsAre("full, the size", Check.analysed(1, 0, Check.full(3, 0, 64)));
        Check.symbolsAre("255", Check.analysed(1, 0, 3, 0, 255, 0));
    }

    private static void tables() {
        ReasmDisasm x = Check.analysed(1, 4, 10, 1, 4, 0, 13, 1, 7, 11, 12, 10, 200, 0);
        // Of the table at 7..10 the value 12 equals the size and 200 is above it.
        Check.symbolsAre("table", x, 6, 7, 9);
        ReasmDisasm unbounded = Check.analysed(1, 4, 10, 2, 4, 0, 13, 1, 7, 11, 12, 10, 200, 0);
        Check.symbolsAre("unbounded", unbounded, 6);
        Check.symbolsAre("table of one", Check.analysed(1, 4, 10, 1, 1, 0, 13, 1, 7, 4, 4), 6, 7);
        Check.symbolsAre("full, table of the last", Check.analysed(1, 61, Check.full(10, 1, 1, 0, 13, 1, 63)), 63);
        // The table lies over the instruction's own bytes.
        ReasmDisasm own = Check.analysed(1, 4, 10, 1, 3, 0, 13, 1, 4);
        Check.symbolsAre("table over its own jump", own, 5, 6);
    }

    private static void onlyReached() {
        Check.symbolsAre("slot of one not reached", Check.analysed(1, 0, 0, 8, 0, 3, 0, 0));
        Check.symbolsAre("slot of one not valid", Check.analysed(1, 0, 3, 4, 0, 0, 0));
        // A slot that is reached itself stays symbolic.
        ReasmDisasm x = Check.analysed(1, 1, 1, 8, 2);
        Check.due("slot and bad", x.byteClass(2), ReasmDisasm.CLASS_BAD);
        Check.symbolsAre("slot and bad", x, 2);
        ReasmDisasm y = Check.analysed(1, 0, 8, 1);
        Check.due("slot and start", y.byteClass(1), ReasmDisasm.CLASS_START);
        Check.symbolsAre("slot and start", y, 1);
    }

    private static void outOfReach() {
        ReasmDisasm x = Check.load(8, 0);
        Check.due("addEntry(0)", x.addEntry(0), true);
        Check.due("not analysed", x.isSymbolic(1), false);
        Check.due("analyse(0)", x.analyse(0), true);
        String before = Check.state(x);
        Check.due("isSymbolic(1)", x.isSymbolic(1), true);
        int[] wrong = {-1, 2, 64, Integer.MIN_VALUE, Integer.MAX_VALUE};
        for (int q : wrong) {
            Check.due("isSymbolic(" + q + ")", x.isSymbolic(q), false);
        }
        Check.same("after isSymbolic", Check.state(x), before);
        Check.put(x, 0);
        Check.due("analysis cleared", x.isSymbolic(1), false);
    }
}
