/** Promise 7. */
public final class CountTest {
    public static void main(String[] args) {
        everyKind();
        notAnalysed();
        wrongKinds();
        unresolved();
        sharedTable();
        setsCountOnce();
        shorterImage();
        Check.end();
    }

    private static void countsAre(String what, ReasmDisasm x, int... counts) {
        for (int k = 0; k < counts.length; k++) {
            Check.due(what + ": count(" + k + ")", x.count(k), counts[k]);
        }
    }

    private static void everyKind() {
        // 0 BGEI R0 3 -> 14; 4 JMPT R0 over 7..9; 10 CALL 14; 12 JMPR; 14 RET; 15 bad; 16, 17 free.
        ReasmDisasm x = Check.analysed(2, 0, 10, 0, 3, 14, 13, 0, 7, 10, 15, 99, 11, 14, 14, 1, 12, 15, 0, 0);
        countsAre("every kind", x, 2, 5, 7, 3, 1, 2, 5, 1, 1, 18, 1);
        int all = 0;
        for (int k = 0; k <= 4; k++) {
            all += x.count(k);
        }
        Check.due("the classes cover the image", all, 18);
    }

    private static void notAnalysed() {
        ReasmDisasm x = Check.load(1, 2, 0, 7);
        countsAre("no entries", x, -1, -1, -1, -1, -1, -1, -1, -1, -1, 4, 0);
        Check.due("addEntry(3)", x.addEntry(3), true);
        countsAre("not analysed", x, -1, -1, -1, -1, -1, -1, -1, -1, -1, 4, 1);
    }

    private static void wrongKinds() {
        ReasmDisasm x = Check.analysed(1, 0, 1, 0);
        String before = Check.state(x);
        int[] wrong = {-1, -2, 11, 12, 64, Integer.MIN_VALUE, Integer.MAX_VALUE};
        for (int k : wrong) {
            Check.due("count(" + k + ")", x.count(k), -1);
            Check.due("count(" + k + ") on a new object", new ReasmDisasm(8).count(k), -1);
        }
        Check.same("after count", Check.state(x), before);
    }

    private static void unresolved() {
        // JMPR at 4 and 13 and an unbounded JMPT at 10; nothing reaches the JMPR at 15.
        ReasmDisasm x = Check.analysed(0, 0, 9, 0, 1, 6, 14, 1, 9, 0, 2, 13, 13, 2, 0, 14, 0, 14, 0);
        Check.due("unresolved", x.count(ReasmDisasm.K_UNRESOLVED), 3);
        Check.due("register jump that is not valid", Check.analysed(0, 0, 14, 4).count(ReasmDisasm.K_UNRESOLVED), 0);
    }

    /** Two bounded jumps over one table: two tables, but each position and each symbol once. */
    private static void sharedTable() {
        ReasmDisasm x = Check.analysed(0, 0, 10, 0, 2, 7, 13, 0, 14, 10, 1, 2, 8, 13, 1, 14, 16, 200, 0);
        // 0 BGEI -> 7, 4 JMPT over 14, 15; 7 BGEI -> 8; 11 JMPT over the same; 8 decodes as NOP.
        Check.due("tables", x.count(ReasmDisasm.K_TABLES), 2);
        Check.due("table positions", x.count(ReasmDisasm.CLASS_TABLE), 2);
        Check.symbolsAre("shared table", x, 3, 6, 10, 13, 14);
    }

    /** What an earlier analysis found past the end of a shorter image is not counted. */
    private static void shorterImage() {
        int[] guarded = {1, 10, 0, 1, 0, 13, 0, 0, 14, 0};
        for (int size = 1; size < guarded.length; size++) {
            ReasmDisasm x = Check.load(guarded);
            Check.due("addEntry(5)", x.addEntry(5), true);
            Check.due("addEntry(8)", x.addEntry(8), true);
            Check.due("analyse(0)", x.analyse(0), true);
            Check.due("tables", x.count(ReasmDisasm.K_TABLES), 1);
            Check.due("unresolved", x.count(ReasmDisasm.K_UNRESOLVED), 1);
            x.reset();
            Check.put(x, new int[size]);
            Check.due("addEntry(0)", x.addEntry(0), true);
            Check.due("analyse(0)", x.analyse(0), true);
            countsAre("shorter image of " + size, x, size - 1, 1, 0, 0, 0, 1, 0, 0, 0, size, 1);
        }
    }

    private static void setsCountOnce() {
        // Two calls of one address that is an entry too.
        ReasmDisasm x = Check.load(11, 4, 11, 4, 12);
        Check.due("addEntry(4)", x.addEntry(4), true);
        Check.due("addEntry(0)", x.addEntry(0), true);
        Check.due("analyse(1)", x.analyse(1), true);
        Check.due("functions", x.count(ReasmDisasm.K_FUNCS), 2);
    }
}
