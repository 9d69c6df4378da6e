/** Promise 7. Each method holds to the sentence above it. */
public final class CountTest {
    public static void main(String[] args) {
        everyKind();
        allOfOneClass();
        notAnalysed();
        sizeAndEntries();
        wrongKinds();
        unresolved();
        sharedTable();
        setsCountOnce();
        greatestCounts();
        shorterImage();
        changesNothing();
        Check.end();
    }

    private static void countsAre(String what, ReasmDisasm x, int... counts) {
        for (int k = 0; k < counts.length; k++) {
            Check.due(what + ": count(" + k + ")", x.count(k), counts[k]);
        }
    }

    private static void everyKind() {
        // 0 BGEI R0 3 -> 14; 4 JMPT R0 over 7..9; 10 CALL 14; 12 JMPR; 14 RET; 15 bad; 16, 17 free.
        ReasmDisasm x = Check.analysed(2, 0, 10, 0, 3, 14, 13, 0, 7, 10, 15, 99, 11, 14, 14, 1, 12, 15, 0, 0);
        countsAre("every kind", x, 2, 5, 7, 3, 1, 2, 5, 1, 1, 18, 1);
    }

    /** "The number of positions q<SIZE whose class is k": none of one class, and all of it. */
    private static void allOfOneClass() {
        countsAre("one start", Check.analysed(0, 0, 0), 0, 1, 0, 0, 0, 1, 0, 0, 0, 1, 1);
        countsAre("one bad", Check.analysed(0, 0, 255), 0, 0, 0, 0, 1, 1, 0, 0, 0, 1, 1);
        countsAre("all starts", Check.analysed(3, 0, Check.full()), 0, 64, 0, 0, 0, 1, 0, 0, 0, 64, 1);
        countsAre("all but one free", Check.analysed(3, 63, Check.full(0)), 63, 1, 0, 0, 0, 1, 0, 0, 0, 64, 1);
    }

    /** "Each of the above answers -1 if not analysed." */
    private static void notAnalysed() {
        countsAre("new", new ReasmDisasm(64), -1, -1, -1, -1, -1, -1, -1, -1, -1, 0, 0);
        ReasmDisasm x = Check.load(1, 2, 0, 7);
        countsAre("no entries", x, -1, -1, -1, -1, -1, -1, -1, -1, -1, 4, 0);
        Check.enter(x, 3);
        countsAre("not analysed", x, -1, -1, -1, -1, -1, -1, -1, -1, -1, 4, 1);
        Check.analyse(x, 0);
        Check.put(x, 0);
        countsAre("after putByte", x, -1, -1, -1, -1, -1, -1, -1, -1, -1, 5, 1);
    }

    /** "These two are answered whether analysed or not": from 0 to 64, and from 0 to 8. */
    private static void sizeAndEntries() {
        ReasmDisasm x = new ReasmDisasm(64);
        for (int size = 0; size < 64; size++) {
            Check.due("size", x.count(ReasmDisasm.K_SIZE), size);
            Check.put(x, 0);
        }
        Check.due("size of a full image", x.count(ReasmDisasm.K_SIZE), 64);
        for (int entries = 0; entries < 8; entries++) {
            Check.due("entries", x.count(ReasmDisasm.K_ENTRIES), entries);
            Check.enter(x, 63 - entries);
        }
        Check.due("all entries", x.count(ReasmDisasm.K_ENTRIES), 8);
        Check.analyse(x, 3);
        Check.due("size, analysed", x.count(ReasmDisasm.K_SIZE), 64);
        Check.due("entries, analysed", x.count(ReasmDisasm.K_ENTRIES), 8);
    }

    /** "Any other k (negative, or above 10): -1." */
    private static void wrongKinds() {
        ReasmDisasm x = Check.analysed(1, 0, 1, 0);
        for (int k : Check.outside(0, 11)) {
            Check.due("count(" + k + ")", x.count(k), -1);
            Check.due("count(" + k + ") on a new object", new ReasmDisasm(8).count(k), -1);
        }
    }

    /** "The number of valid JMPT in S that are not bounded, plus the number of valid JMPR in S." */
    private static void unresolved() {
        // JMPR at 4 and 13 and an unbounded JMPT at 10; nothing reaches the JMPR at 15.
        ReasmDisasm x = Check.analysed(0, 0, 9, 0, 1, 6, 14, 1, 9, 0, 2, 13, 13, 2, 0, 14, 0, 14, 0);
        Check.due("unresolved", x.count(ReasmDisasm.K_UNRESOLVED), 3);
        Check.due("JMPR", Check.analysed(0, 0, 14, 3).count(ReasmDisasm.K_UNRESOLVED), 1);
        Check.due("JMPT", Check.analysed(0, 0, 13, 3, 0).count(ReasmDisasm.K_UNRESOLVED), 1);
        Check.due("JMPR not valid", Check.analysed(0, 0, 14, 4).count(ReasmDisasm.K_UNRESOLVED), 0);
        Check.due("JMPT not valid", Check.analysed(0, 0, 13, 4, 0).count(ReasmDisasm.K_UNRESOLVED), 0);
    }

    /** Two bounded jumps over one table: two tables, but each position and each symbol once. */
    private static void sharedTable() {
        ReasmDisasm x = Check.analysed(0, 0, 10, 0, 2, 7, 13, 0, 14, 10, 1, 2, 8, 13, 1, 14, 16, 200, 0);
        // 0 BGEI -> 7, 4 JMPT over 14, 15; 7 BGEI -> 8; 11 JMPT over the same; 8 decodes as NOP.
        Check.due("tables", x.count(ReasmDisasm.K_TABLES), 2);
        Check.due("table positions", x.count(ReasmDisasm.CLASS_TABLE), 2);
        Check.symbolsAre("shared table", x, 3, 6, 10, 13, 14);
    }

    private static void setsCountOnce() {
        // Two calls of one address that is an entry too.
        ReasmDisasm x = Check.analysedFrom(new int[] {4, 0}, 1, 11, 4, 11, 4, 12);
        Check.due("functions", x.count(ReasmDisasm.K_FUNCS), 2);
    }

    /** Full images: nine guarded table jumps, each guard leading to the next, then the same with wrong bounds. */
    private static void greatestCounts() {
        countsAre("nine tables", Check.analysed(3, 0, guardedJumps(1)), 0, 18, 45, 1, 0, 1, 18, 9, 0, 64, 1);
        countsAre("nine unresolved", Check.analysed(3, 0, guardedJumps(0)), 1, 18, 45, 0, 0, 1, 18, 0, 9, 64, 1);
        countsAre("nine over the end", Check.analysed(3, 0, guardedJumps(2)), 1, 18, 45, 0, 0, 1, 18, 0, 9, 64, 1);
    }

    private static int[] guardedJumps(int bound) {
        int[] image = Check.full(255);
        for (int p = 0; p < 63; p += 7) {
            int[] jump = {10, 0, bound, (p + 7) % 63, 13, 0, 63};
            System.arraycopy(jump, 0, image, p, jump.length);
        }
        return image;
    }

    /** What an earlier analysis found past the end of a shorter image is not counted. */
    private static void shorterImage() {
        int[] guarded = {1, 10, 0, 1, 0, 13, 0, 0, 14, 0};
        for (int size = 1; size < guarded.length; size++) {
            ReasmDisasm x = Check.analysedFrom(new int[] {5, 8}, 0, guarded);
            Check.due("tables", x.count(ReasmDisasm.K_TABLES), 1);
            Check.due("unresolved", x.count(ReasmDisasm.K_UNRESOLVED), 1);
            x.reset();
            Check.put(x, new int[size]);
            Check.enter(x, 0);
            Check.analyse(x, 0);
            countsAre("shorter image of " + size, x, size - 1, 1, 0, 0, 0, 1, 0, 0, 0, size, 1);
        }
    }

    /** "`count(k)` changes nothing." */
    private static void changesNothing() {
        ReasmDisasm x = Check.analysed(1, 0, 1, 0);
        Check.run(x, ReasmDisasm.MEM_OUTPUT, 0, 9);
        String before = Check.state(x);
        for (int k = -2; k <= 12; k++) {
            x.count(k);
        }
        Check.same("after count", Check.state(x), before);
    }
}
