/** Promise 1. Each method holds to the sentence above it. */
public final class ConstructionTest {
    public static void main(String[] args) {
        tooSmall();
        tooLarge();
        keptAsGiven();
        emptyImage();
        noEntries();
        notAnalysed();
        runStateCleared();
        objectsAreApart();
        Check.end();
    }

    private static void capacityIs(int given, int want) {
        ReasmDisasm x = new ReasmDisasm(given);
        int taken = 0;
        while (taken < 1000 && x.putByte(1)) {
            taken++;
        }
        Check.due("bytes taken at capacity " + given, taken, want);
        Check.due("size at capacity " + given, x.count(ReasmDisasm.K_SIZE), want);
    }

    /** "A value below 8 becomes 8." */
    private static void tooSmall() {
        int[] small = {Integer.MIN_VALUE, -65536, -256, -255, -64, -9, -8, -1, 0, 1, 2, 3, 4, 5, 6, 7};
        for (int capacity : small) {
            capacityIs(capacity, 8);
        }
    }

    /** "Above 64 becomes 64." */
    private static void tooLarge() {
        int[] large = {65, 66, 127, 128, 255, 256, 257, 264, 65536, 65544, Integer.MAX_VALUE};
        for (int capacity : large) {
            capacityIs(capacity, 64);
        }
    }

    /** "Otherwise it is kept as given." */
    private static void keptAsGiven() {
        for (int capacity = 8; capacity <= 64; capacity++) {
            capacityIs(capacity, capacity);
        }
    }

    private static final int[] CAPACITIES = {Integer.MIN_VALUE, 0, 8, 20, 64, Integer.MAX_VALUE};

    /** "The new object starts with an empty image (SIZE 0)." */
    private static void emptyImage() {
        for (int capacity : CAPACITIES) {
            ReasmDisasm x = new ReasmDisasm(capacity);
            Check.due("new: size", x.count(ReasmDisasm.K_SIZE), 0);
            Check.due("new: addEntry(0)", x.addEntry(0), false);
            Check.due("new: run", x.run(ReasmDisasm.MEM_IMAGE, 0, 1), false);
        }
    }

    /** "No entries." */
    private static void noEntries() {
        for (int capacity : CAPACITIES) {
            ReasmDisasm x = new ReasmDisasm(capacity);
            Check.due("new: entries", x.count(ReasmDisasm.K_ENTRIES), 0);
            Check.put(x, 0, 0, 0, 0, 0, 0, 0, 0);
            Check.due("new: analyse without entries", x.analyse(0), false);
            Check.enter(x, 0, 1, 2, 3, 4, 5, 6, 7);
        }
    }

    /** "Not analysed." */
    private static void notAnalysed() {
        for (int capacity : CAPACITIES) {
            Check.notAnalysed("new", new ReasmDisasm(capacity));
        }
    }

    /** "The run state cleared as by `reset`." */
    private static void runStateCleared() {
        for (int capacity : CAPACITIES) {
            Check.neverRan("new", new ReasmDisasm(capacity));
        }
    }

    private static void objectsAreApart() {
        ReasmDisasm one = Check.analysed(1, 0, 7, 0, 0);
        ReasmDisasm other = new ReasmDisasm(64);
        String before = Check.state(other);
        Check.run(one, ReasmDisasm.MEM_IMAGE, 0, 9);
        Check.same("another object", Check.state(other), before);
    }
}
