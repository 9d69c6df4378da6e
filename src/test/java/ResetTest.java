/** Promise 2. Each method holds to the sentence above it. */
public final class ResetTest {
    public static void main(String[] args) {
        emptiesTheImage();
        emptiesTheEntries();
        clearsTheAnalysis();
        clearsTheRunState();
        noValuesOut();
        stackIsEmpty();
        keepsTheCapacity();
        leavesNothingBehind();
        onEmpty();
        Check.end();
    }

    /** An object with bytes, entries, an analysis, and a run that left something in every part of its state. */
    private static ReasmDisasm used(int capacity) {
        ReasmDisasm x = new ReasmDisasm(capacity);
        Check.put(x, 2, 3, 9, 7, 3, 11, 0, 0);
        Check.enter(x, 0, 7);
        Check.analyse(x, 2);
        Check.run(x, ReasmDisasm.MEM_IMAGE, 0, 8);
        Check.ended("used", x, ReasmDisasm.RUN_STEPS, 8, 5);
        Check.valuesAre("used", x, 9, 9, 9);
        Check.registersAre("used", x, 0, 0, 0, 9);
        Check.due("used: depth", x.runInfo(ReasmDisasm.INFO_DEPTH), 2);
        return x;
    }

    /** "`reset()` empties the image", a full one too. */
    private static void emptiesTheImage() {
        ReasmDisasm x = Check.load(Check.full());
        x.reset();
        Check.due("size after reset", x.count(ReasmDisasm.K_SIZE), 0);
        Check.due("addEntry(0) after reset", x.addEntry(0), false);
        Check.due("run after reset", x.run(ReasmDisasm.MEM_IMAGE, 0, 1), false);
        Check.put(x, Check.full(0));
        Check.due("size when full again", x.count(ReasmDisasm.K_SIZE), 64);
        Check.due("putByte when full again", x.putByte(0), false);
        Check.imageIs("full again", x, Check.full(0));
    }

    /** "And the entries", eight of them too. */
    private static void emptiesTheEntries() {
        ReasmDisasm x = Check.load(0, 0, 0, 0, 0, 0, 0, 0, 0);
        Check.enter(x, 0, 1, 2, 3, 4, 5, 6, 7);
        x.reset();
        Check.due("entries after reset", x.count(ReasmDisasm.K_ENTRIES), 0);
        Check.put(x, 0, 0, 0, 0, 0, 0, 0, 0, 0);
        Check.due("analyse without entries after reset", x.analyse(0), false);
        Check.enter(x, 3);
        Check.analyse(x, 1);
        Check.functionsAre("after reset", x, 3);
        Check.enter(x, 0, 1, 2, 8, 4, 5, 6);
        Check.due("the ninth after reset", x.addEntry(7), false);
    }

    /** "And clears the analysis, so the object is not analysed." */
    private static void clearsTheAnalysis() {
        ReasmDisasm x = used(64);
        x.reset();
        Check.notAnalysed("after reset", x);
        Check.put(x, 2, 3, 9, 7, 3, 11, 0, 0);
        Check.notAnalysed("after reset and the same bytes", x);
        Check.enter(x, 0, 7);
        Check.notAnalysed("after reset, the same bytes and entries", x);
    }

    /** "It clears the run state", however the run ended. */
    private static void clearsTheRunState() {
        ReasmDisasm steps = used(64);
        steps.reset();
        Check.neverRan("reset after RUN_STEPS", steps);
        ReasmDisasm halted = Check.ran(0, 9, 2, 1, 255, 7, 1, 11, 7, 0);
        Check.ended("used", halted, ReasmDisasm.RUN_HALTED, 4, 7);
        halted.reset();
        Check.neverRan("reset after RUN_HALTED", halted);
        ReasmDisasm fault = Check.ran(0, 99, 5, 2, 1, 7, 2, 11, 0);
        Check.ended("used", fault, ReasmDisasm.RUN_FAULT, 26, 5);
        fault.reset();
        Check.neverRan("reset after RUN_FAULT", fault);
    }

    /** "No values out", where 16 were out. */
    private static void noValuesOut() {
        ReasmDisasm x = Check.ran(0, 2000, 5, 0, 1, 7, 0, 8, 0);
        Check.due("values out", x.runInfo(ReasmDisasm.INFO_OUTCOUNT), 16);
        x.reset();
        Check.valuesAre("after reset", x);
        Check.put(x, 7, 3, 0);
        Check.run(x, ReasmDisasm.MEM_IMAGE, 0, 9);
        Check.valuesAre("after reset and a run", x, 0);
    }

    /** "Depth 0", where it was 8. */
    private static void stackIsEmpty() {
        ReasmDisasm x = Check.ran(0, 2000, 11, 0);
        Check.due("depth", x.runInfo(ReasmDisasm.INFO_DEPTH), 8);
        x.reset();
        Check.due("depth after reset", x.runInfo(ReasmDisasm.INFO_DEPTH), 0);
        Check.put(x, 1, 12);
        Check.run(x, ReasmDisasm.MEM_IMAGE, 0, 9);
        Check.ended("RET after reset", x, ReasmDisasm.RUN_FAULT, 1, 1);
    }

    /** "The capacity is kept." */
    private static void keepsTheCapacity() {
        for (int capacity = 8; capacity <= 64; capacity++) {
            ReasmDisasm x = used(capacity);
            x.reset();
            for (int i = 0; i < capacity; i++) {
                Check.due("putByte after reset", x.putByte(i), true);
            }
            Check.due("putByte above the kept capacity " + capacity, x.putByte(0), false);
        }
    }

    /** A full image whose far end, all of it reached, has a call, a guarded jump and addresses of its first bytes. */
    private static int[] farReaching() {
        return Check.full(3, 0, 1, 11, 2, 10, 0, 2, 3, 13, 0, 1);
    }

    /** After reset an object cannot be told from a new one, whatever is done with it. */
    private static void leavesNothingBehind() {
        int[][] images = {{0}, {1, 1}, {8, 2, 3}, {6, 0, 3, 0}, {0, 0, 0, 0, 0}, {11, 2, 0, 5, 7}, {10, 0, 2, 3, 13}};
        for (int[] image : images) {
            ReasmDisasm x = Check.analysedFrom(new int[] {0, 1, 2, 60}, 3, farReaching());
            Check.due("tables", x.count(ReasmDisasm.K_TABLES), 1);
            Check.run(x, ReasmDisasm.MEM_OUTPUT, 0, 2000);
            x.reset();
            Check.same("after reset", Check.state(x), Check.state(new ReasmDisasm(64)));
            Check.put(x, image);
            Check.enter(x, 0);
            Check.analyse(x, 1);
            Check.run(x, ReasmDisasm.MEM_OUTPUT, 0, 50);
            ReasmDisasm fresh = Check.analysed(1, 0, image);
            Check.run(fresh, ReasmDisasm.MEM_OUTPUT, 0, 50);
            Check.same("used again after reset", Check.state(x), Check.state(fresh));
        }
    }

    /** "Calling it on an already empty object leaves the same state." */
    private static void onEmpty() {
        ReasmDisasm x = new ReasmDisasm(30);
        String before = Check.state(x);
        x.reset();
        Check.same("reset of a new object", Check.state(x), before);
        x.reset();
        Check.same("reset after reset", Check.state(x), before);
        ReasmDisasm y = used(30);
        y.reset();
        y.reset();
        Check.same("second reset of a used object", Check.state(y), before);
        for (int i = 0; i < 30; i++) {
            Check.due("putByte after two resets", y.putByte(0), true);
        }
        Check.due("putByte above the capacity after two resets", y.putByte(0), false);
    }
}
