/** Promise 4. Each method holds to the sentence above it. */
public final class AddEntryTest {
    public static void main(String[] args) {
        everyAddress();
        refusesWrongAddresses();
        refusesOnEmptyImage();
        refusesTheSizeOfAFullImage();
        sizeGrowsPastIt();
        refusesRepeats();
        refusesTheNinth();
        refusesAllAtOnce();
        clearsTheAnalysis();
        keepsTheImage();
        keepsTheRunState();
        Check.end();
    }

    /** "Otherwise it answers true, the entries gain a", for every a from 0 to SIZE-1. */
    private static void everyAddress() {
        for (int size = 1; size <= 64; size++) {
            for (int a : new int[] {0, size / 2, size - 1}) {
                ReasmDisasm x = Check.load(new int[size]);
                Check.enter(x, a);
                Check.due("entries", x.count(ReasmDisasm.K_ENTRIES), 1);
                Check.analyse(x, 1);
                Check.functionsAre("entry " + a + " of " + size, x, a);
                Check.due("class of entry " + a, x.byteClass(a), ReasmDisasm.CLASS_START);
                Check.due("starts", x.count(ReasmDisasm.CLASS_START), 1);
            }
        }
    }

    /** "It is refused (false, nothing changes) if any holds: a<0; a>=SIZE." */
    private static void refusesWrongAddresses() {
        ReasmDisasm x = Check.analysedFrom(new int[] {2, 0}, 3, 1, 1, 7, 0, 0);
        Check.run(x, ReasmDisasm.MEM_OUTPUT, 0, 100);
        String before = Check.state(x);
        for (int a : Check.outside(0, 5)) {
            Check.refused("addEntry(" + a + ")", x.addEntry(a), x, before);
        }
        // Addresses of the new layout are none of the image.
        for (int a = 5; a < x.outSize(); a++) {
            Check.refused("addEntry(" + a + ")", x.addEntry(a), x, before);
        }
        Check.enter(x, 4);
        Check.analyse(x, 3);
        Check.functionsAre("after refusals", x, 0, 2, 4);
    }

    private static void refusesOnEmptyImage() {
        ReasmDisasm x = new ReasmDisasm(64);
        String before = Check.state(x);
        for (int a : new int[] {Integer.MIN_VALUE, -1, 0, 1, 63, 64, Integer.MAX_VALUE}) {
            Check.refused("addEntry(" + a + ") on an empty image", x.addEntry(a), x, before);
        }
        ReasmDisasm emptied = Check.load(0, 0);
        emptied.reset();
        Check.due("addEntry(1) after reset", emptied.addEntry(1), false);
    }

    private static void refusesTheSizeOfAFullImage() {
        ReasmDisasm x = Check.load(Check.full(0));
        Check.due("addEntry(64)", x.addEntry(64), false);
        Check.due("addEntry(255)", x.addEntry(255), false);
        Check.due("addEntry(63)", x.addEntry(63), true);
        ReasmDisasm small = new ReasmDisasm(8);
        Check.put(small, 0, 0, 0, 0, 0, 0, 0, 0);
        Check.due("addEntry(8)", small.addEntry(8), false);
        Check.due("addEntry(7)", small.addEntry(7), true);
    }

    /** What counts is SIZE as it is when the call is made. */
    private static void sizeGrowsPastIt() {
        ReasmDisasm x = Check.load(0, 0, 0, 0);
        Check.due("addEntry(4)", x.addEntry(4), false);
        Check.put(x, 0);
        Check.due("addEntry(4) once the image reaches it", x.addEntry(4), true);
        Check.due("addEntry(5)", x.addEntry(5), false);
    }

    /** "A is already an entry." */
    private static void refusesRepeats() {
        ReasmDisasm x = Check.load(0, 0, 0, 0, 0);
        Check.enter(x, 0, 2, 4);
        String before = Check.state(x);
        for (int a : new int[] {0, 2, 4, 4}) {
            Check.refused("addEntry(" + a + ") again", x.addEntry(a), x, before);
        }
        Check.analyse(x, 1);
        before = Check.state(x);
        for (int a : new int[] {0, 2, 4, 4}) {
            Check.refused("addEntry(" + a + ") again, analysed", x.addEntry(a), x, before);
        }
        // A function start by a call alone is not an entry yet.
        ReasmDisasm called = Check.analysed(1, 0, 11, 3, 0, 12);
        Check.due("addEntry of a called address", called.addEntry(3), true);
    }

    /** "There are already 8 entries." */
    private static void refusesTheNinth() {
        ReasmDisasm x = Check.load(0, 0, 0, 0, 0, 0, 0, 0, 0, 0);
        for (int a = 9; a >= 2; a--) {
            Check.due("addEntry(" + a + ")", x.addEntry(a), true);
            Check.due("entries", x.count(ReasmDisasm.K_ENTRIES), 10 - a);
        }
        Check.analyse(x, 1);
        String before = Check.state(x);
        Check.refused("the ninth", x.addEntry(1), x, before);
        Check.refused("the ninth again", x.addEntry(0), x, before);
        Check.functionsAre("eight entries", x, 2, 3, 4, 5, 6, 7, 8, 9);
        Check.put(x, 0);
        Check.due("the ninth in a longer image", x.addEntry(10), false);
        Check.analyse(x, 1);
        Check.functionsAre("eight entries still", x, 2, 3, 4, 5, 6, 7, 8, 9);
    }

    private static void refusesAllAtOnce() {
        ReasmDisasm x = Check.load(0, 0, 0, 0, 0, 0, 0, 0);
        Check.enter(x, 0, 1, 2, 3, 4, 5, 6, 7);
        Check.analyse(x, 2);
        String before = Check.state(x);
        for (int a : new int[] {0, 7, 8, -1, Integer.MIN_VALUE, Integer.MAX_VALUE}) {
            Check.refused("addEntry(" + a + ") at 8 entries", x.addEntry(a), x, before);
        }
    }

    /** "And the analysis is cleared." */
    private static void clearsTheAnalysis() {
        ReasmDisasm x = Check.analysed(2, 0, 7, 0, 0, 0);
        Check.enter(x, 3);
        Check.notAnalysed("after addEntry", x);
        Check.due("addEntry(3) again", x.addEntry(3), false);
        Check.notAnalysed("after a refused addEntry", x);
        // The entry was a function start and reached already: the analysis goes all the same.
        ReasmDisasm called = Check.analysed(2, 0, 11, 3, 0, 12);
        Check.enter(called, 3);
        Check.notAnalysed("after addEntry of a called address", called);
    }

    /** "The image is unchanged." */
    private static void keepsTheImage() {
        ReasmDisasm x = Check.load(7, 0, 255, 0);
        Check.enter(x, 0, 3, 1, 2);
        Check.due("size after addEntry", x.count(ReasmDisasm.K_SIZE), 4);
        Check.imageIs("image after addEntry", x, 7, 0, 255, 0);
    }

    /** "The run state is kept." */
    private static void keepsTheRunState() {
        ReasmDisasm x = Check.ran(0, 7, 5, 1, 9, 7, 1, 11, 0);
        String run = Check.runState(x);
        Check.enter(x, 0, 6);
        Check.same("run state after addEntry", Check.runState(x), run);
    }
}
