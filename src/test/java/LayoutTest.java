/** Promises 10, 11 and 12: outSize, outByte and mapAddr. */
public final class LayoutTest {
    public static void main(String[] args) {
        padsBeforeFunctions();
        noPadBeforeZero();
        rewritesSymbols();
        padsInsideAnInstruction();
        greatOutput();
        notAnalysed();
        wrongPositions();
        Check.end();
    }

    private static void mapIs(String what, ReasmDisasm x, int... map) {
        for (int a = 0; a < map.length; a++) {
            Check.due(what + ": mapAddr(" + a + ")", x.mapAddr(a), map[a]);
        }
        Check.due(what + ": mapAddr of the size", x.mapAddr(map.length), -1);
    }

    private static void padsBeforeFunctions() {
        ReasmDisasm x = Check.analysed(0, 0, 11, 4, 11, 5, 12, 12, 200);
        Check.outIs("pad 0", x, 11, 4, 11, 5, 12, 12, 200);
        mapIs("pad 0", x, 0, 1, 2, 3, 4, 5, 6);
        Check.due("analyse(1)", x.analyse(1), true);
        Check.outIs("pad 1", x, 11, 5, 11, 7, 1, 12, 1, 12, 200);
        mapIs("pad 1", x, 0, 1, 2, 3, 5, 7, 8);
        Check.due("analyse(2)", x.analyse(2), true);
        Check.outIs("pad 2", x, 11, 6, 11, 9, 1, 1, 12, 1, 1, 12, 200);
        mapIs("pad 2", x, 0, 1, 2, 3, 6, 9, 10);
        Check.due("analyse(3)", x.analyse(3), true);
        Check.outIs("pad 3", x, 11, 7, 11, 11, 1, 1, 1, 12, 1, 1, 1, 12, 200);
        mapIs("pad 3", x, 0, 1, 2, 3, 7, 11, 12);
    }

    private static void noPadBeforeZero() {
        Check.outIs("entry 0 alone", Check.analysed(3, 0, 0, 5), 0, 5);
        Check.outIs("entry 1 alone", Check.analysed(3, 1, 5, 0), 5, 1, 1, 1, 0);
        ReasmDisasm call = Check.analysed(2, 1, 0, 11, 0, 0);
        Check.outIs("a call of 0", call, 0, 1, 1, 11, 0, 0);
    }

    private static void rewritesSymbols() {
        // LEA 8, MOVI 8 and JMP 8 before a function at 8: only the addresses in slots move.
        ReasmDisasm x = Check.load(3, 0, 8, 2, 1, 8, 8, 8, 0, 8, 9);
        Check.due("addEntry(0)", x.addEntry(0), true);
        Check.due("addEntry(8)", x.addEntry(8), true);
        Check.due("analyse(2)", x.analyse(2), true);
        Check.outIs("symbols", x, 3, 0, 10, 2, 1, 8, 8, 10, 1, 1, 0, 8, 9);
        // Table values move, but the one that is not an address stays.
        ReasmDisasm y = Check.analysed(1, 4, 10, 1, 3, 2, 13, 1, 7, 10, 11, 3, 0);
        Check.outIs("table", y, 10, 1, 3, 2, 1, 13, 1, 8, 11, 11, 3, 0);
        ReasmDisasm size = Check.analysed(3, 1, 0, 8, 3);
        Check.outIs("a target at the size", size, 0, 1, 1, 1, 8, 3);
        ReasmDisasm last = Check.analysed(3, 1, 0, 8, 2);
        Check.outIs("a target at the last", last, 0, 1, 1, 1, 8, 5);
    }

    private static void padsInsideAnInstruction() {
        ReasmDisasm x = Check.load(2, 0, 1, 0);
        Check.due("addEntry(0)", x.addEntry(0), true);
        Check.due("addEntry(2)", x.addEntry(2), true);
        Check.due("analyse(2)", x.analyse(2), true);
        Check.outIs("a function start in an operand", x, 2, 0, 1, 1, 1, 0);
        mapIs("a function start in an operand", x, 0, 1, 4, 5);
    }

    /** A call of every odd address, and entries at eight even ones. */
    private static void greatOutput() {
        ReasmDisasm x = new ReasmDisasm(64);
        for (int p = 0; p < 64; p += 2) {
            Check.put(x, 11, 63 - p);
        }
        for (int a = 0; a < 16; a += 2) {
            Check.due("addEntry", x.addEntry(a), true);
        }
        Check.due("analyse(3)", x.analyse(3), true);
        Check.due("function starts", x.count(ReasmDisasm.K_FUNCS), 40);
        Check.due("outSize()", x.outSize(), 181);
        Check.due("mapAddr(63)", x.mapAddr(63), 180);
        Check.due("the first call", x.outByte(x.mapAddr(1)), 180);
        Check.due("before it", x.outByte(x.mapAddr(1) - 1), 1);
        Check.due("the last byte", x.outByte(180), x.mapAddr(1));
    }

    private static void notAnalysed() {
        ReasmDisasm x = Check.load(0, 0);
        Check.due("outSize()", x.outSize(), -1);
        Check.due("outByte(0)", x.outByte(0), -1);
        Check.due("mapAddr(0)", x.mapAddr(0), -1);
        Check.due("addEntry(1)", x.addEntry(1), true);
        Check.due("analyse(1)", x.analyse(1), true);
        Check.due("outSize()", x.outSize(), 3);
        Check.put(x, 0);
        Check.due("outSize() once cleared", x.outSize(), -1);
        Check.due("outByte(0) once cleared", x.outByte(0), -1);
        Check.due("mapAddr(0) once cleared", x.mapAddr(0), -1);
    }

    private static void wrongPositions() {
        ReasmDisasm x = Check.analysed(3, 1, 0, 0);
        String before = Check.state(x);
        Check.due("outByte(4)", x.outByte(4), 0);
        Check.due("mapAddr(1)", x.mapAddr(1), 4);
        int[] wrong = {-1, 5, 253, 256, Integer.MIN_VALUE, Integer.MAX_VALUE};
        for (int i : wrong) {
            Check.due("outByte(" + i + ")", x.outByte(i), -1);
            Check.due("mapAddr(" + i + ")", x.mapAddr(i), -1);
        }
        Check.due("mapAddr(2)", x.mapAddr(2), -1);
        Check.same("after asking", Check.state(x), before);
    }
}
