/** "The analysis": the reached set. Each method holds to the sentence above it. */
public final class ReachTest {
    public static void main(String[] args) {
        everyEntry();
        noneAfterStops();
        fallThrough();
        branches();
        unboundedTable();
        boundedTable();
        notFromInvalid();
        notFromCut();
        belowSize();
        lastInTheImage();
        lastInAFullImage();
        leastSet();
        loops();
        farChain();
        Check.end();
    }

    private static void reachedAre(String what, ReasmDisasm x, int... reached) {
        int size = x.count(ReasmDisasm.K_SIZE);
        for (int q = 0; q < size; q++) {
            int got = x.byteClass(q);
            boolean inS = got == ReasmDisasm.CLASS_START || got == ReasmDisasm.CLASS_BAD;
            Check.due(what + ": " + q + " is reached", inS, Check.contains(reached, q));
        }
    }

    private static void reaches(String what, int[] bytes, int... reached) {
        reachedAre(what, Check.analysed(0, 0, bytes), reached);
    }

    /** "Contains every entry", valid or not. */
    private static void everyEntry() {
        int[] entries = {0, 1, 2, 3, 4, 5, 6, 7};
        reachedAre("eight entries", Check.analysedFrom(entries, 0, 0, 0, 0, 0, 0, 0, 0, 0, 0), entries);
        reachedAre("bad entries", Check.analysedFrom(new int[] {1, 3}, 0, 0, 99, 0, 15, 0), 1, 3);
        reachedAre("the last address", Check.analysed(0, 63, Check.full(0)), 63);
    }

    /** "HALT, RET, JMPR: none." */
    private static void noneAfterStops() {
        reaches("HALT", new int[] {0, 0, 0, 0, 0, 0}, 0);
        reaches("RET", new int[] {12, 0, 0, 0, 0, 0}, 0);
        reaches("JMPR", new int[] {14, 0, 0, 0, 0, 0}, 0);
    }

    /** "Every other opcode: p+LEN." */
    private static void fallThrough() {
        reaches("NOP", new int[] {1, 0, 0, 0, 0, 0}, 0, 1);
        reaches("MOVI", new int[] {2, 0, 5, 0, 0, 0}, 0, 3);
        reaches("LEA", new int[] {3, 0, 5, 0, 0, 0}, 0, 3);
        reaches("ADD", new int[] {4, 0, 1, 0, 0, 0}, 0, 3);
        reaches("ADDI", new int[] {5, 0, 5, 0, 0, 0}, 0, 3);
        reaches("LDX", new int[] {6, 0, 5, 0, 0, 0}, 0, 4);
        reaches("OUT", new int[] {7, 0, 0, 0, 0, 0}, 0, 2);
    }

    /** "JMP: t. CALL: t and p+2. BEQI, BGEI: t and p+4." */
    private static void branches() {
        reaches("JMP", new int[] {8, 4, 0, 0, 0, 0}, 0, 4);
        reaches("CALL", new int[] {11, 4, 0, 0, 0, 0}, 0, 2, 4);
        reaches("BEQI", new int[] {9, 0, 2, 5, 0, 0}, 0, 4, 5);
        reaches("BGEI", new int[] {10, 0, 2, 5, 0, 0}, 0, 4, 5);
    }

    /** "JMPT: ... none if not" bounded. */
    private static void unboundedTable() {
        reaches("JMPT unbounded", new int[] {13, 0, 4, 0, 5, 0}, 0);
    }

    /** "JMPT: the values of its table if it is bounded": the first, the last, and none beside them. */
    private static void boundedTable() {
        int[] bytes = {10, 0, 3, 0, 13, 0, 8, 11, 12, 13, 14, 15, 0, 0, 0, 0};
        reachedAre("table", Check.analysed(0, 4, bytes), 4, 12, 13, 14);
        int[] edges = {10, 0, 4, 0, 13, 0, 7, 0, 11, 12, 255, 0};
        // The values 0, 11 (the last address), 12 (the size) and 255.
        reachedAre("values at the edges", Check.analysed(0, 4, edges), 0, 4, 11);
    }

    /** "Every successor below SIZE of every valid p in S": one that is not valid has none. */
    private static void notFromInvalid() {
        reaches("a bad opcode", new int[] {15, 0, 0, 0, 0, 0}, 0);
        reaches("a bad register", new int[] {2, 4, 0, 0, 0, 0}, 0);
        reaches("a bad register of a branch", new int[] {9, 4, 0, 5, 0, 0}, 0);
        reaches("into a bad one", new int[] {8, 3, 0, 99, 0, 0}, 0, 3);
        reaches("into one that is cut", new int[] {8, 5, 0, 0, 0, 8}, 0, 5);
    }

    /** A branch whose target is cut off has none, also where an earlier image held the target. */
    private static void notFromCut() {
        int[][] cut = {{8}, {9, 0, 0}, {10, 0, 0}, {11}};
        for (int[] bytes : cut) {
            int[] image = new int[3 + bytes.length];
            System.arraycopy(bytes, 0, image, 3, bytes.length);
            reachedAre("op " + bytes[0] + " cut", Check.analysed(0, 3, image), 3);
            int[] longer = java.util.Arrays.copyOf(image, image.length + 1);
            longer[image.length] = 1;
            ReasmDisasm x = Check.analysed(0, 3, longer);
            Check.due("op " + bytes[0] + " whole", x.byteClass(1), ReasmDisasm.CLASS_START);
            x.reset();
            Check.put(x, image);
            Check.enter(x, 3);
            Check.analyse(x, 0);
            reachedAre("op " + bytes[0] + " cut after reset", x, 3);
        }
    }

    /** "Addresses below SIZE": the last address is reached, SIZE and all above it are not. */
    private static void belowSize() {
        for (int t = 6; t <= 255; t++) {
            reaches("JMP to " + t, new int[] {8, t, 0, 0, 0, 0}, 0);
            reaches("CALL of " + t, new int[] {11, t, 0, 0, 0, 0}, 0, 2);
            reaches("BEQI to " + t, new int[] {9, 0, 0, t, 0, 0}, 0, 4);
            reaches("BGEI to " + t, new int[] {10, 0, 0, t, 0, 0}, 0, 4);
        }
        reaches("JMP to the last", new int[] {8, 5, 0, 0, 0, 0}, 0, 5);
        reaches("CALL of the last", new int[] {11, 5, 0, 0, 0, 0}, 0, 2, 5);
        reaches("BEQI to the last", new int[] {9, 0, 0, 5, 0, 0}, 0, 4, 5);
        reaches("BGEI to the last", new int[] {10, 0, 0, 5, 0, 0}, 0, 4, 5);
    }

    private static final int[][] FALLING = {
        {1}, {2, 0, 0}, {3, 0, 0}, {4, 0, 0}, {5, 0, 0}, {6, 0, 0, 0}, {7, 0}, {9, 0, 0, 0}, {10, 0, 0, 0}, {11, 0},
    };

    /** An instruction that ends with the image falls to SIZE, which is not in S. */
    private static void lastInTheImage() {
        for (int[] bytes : FALLING) {
            ReasmDisasm x = Check.analysed(0, 0, bytes);
            reachedAre("op " + bytes[0] + " alone", x, 0);
            // What an earlier image held past the end is not looked at.
            ReasmDisasm again = Check.load(0, 0, 0, 0, 0, 0);
            again.reset();
            Check.put(again, bytes);
            Check.enter(again, 0);
            Check.analyse(again, 0);
            Check.same("op " + bytes[0] + " after reset", Check.state(again), Check.state(x));
        }
    }

    private static void lastInAFullImage() {
        for (int[] bytes : FALLING) {
            int p = 64 - bytes.length;
            int[] image = Check.full(bytes);
            image[0] = 0;
            int[] reached = bytes[0] < 9 ? new int[] {p} : new int[] {0, p};
            reachedAre("op " + bytes[0] + " at the end", Check.analysed(0, p, image), reached);
        }
        reachedAre("JMP to the size", Check.analysed(0, 62, Check.full(8, 64)), 62);
        reachedAre("JMP to the last", Check.analysed(0, 62, Check.full(8, 63)), 62, 63);
    }

    /** "The least set": what only unreached code leads to is not in it. */
    private static void leastSet() {
        reaches("code behind a HALT", new int[] {0, 8, 3, 8, 1, 0}, 0);
        reaches("data beside a jump", new int[] {8, 4, 8, 0, 0, 1}, 0, 4);
        reachedAre("code before the entry", Check.analysed(0, 2, 1, 1, 0), 2);
    }

    private static void loops() {
        reaches("a jump to itself", new int[] {8, 0, 0}, 0);
        reaches("two jumps in a ring", new int[] {8, 2, 8, 0, 0}, 0, 2);
        reaches("a call of itself", new int[] {11, 0, 0, 0}, 0, 2);
        reaches("all fall off the end", new int[] {1, 1, 1, 1, 1, 1}, 0, 1, 2, 3, 4, 5);
    }

    /** Each jump goes to the one two below it, so an analysis that stops early loses the far end. */
    private static void farChain() {
        int[] bytes = new int[64];
        bytes[0] = 8;
        bytes[1] = 62;
        for (int p = 2; p < 64; p += 2) {
            bytes[p] = 8;
            bytes[p + 1] = p - 2;
        }
        ReasmDisasm x = Check.analysed(0, 0, bytes);
        Check.due("far chain", x.count(ReasmDisasm.CLASS_START), 32);
        Check.due("far chain", x.count(ReasmDisasm.CLASS_OPERAND), 32);
    }
}
