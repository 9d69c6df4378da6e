/** Promise 3. Each method holds to the sentence above it. */
public final class PutByteTest {
    public static void main(String[] args) {
        everyByte();
        growsByOne();
        refusesWrongBytes();
        refusesWrongBytesWhenEmpty();
        refusesWhenFull();
        refusesBothAtOnce();
        lastFreePlace();
        clearsTheAnalysis();
        keepsBytesAndEntries();
        keepsTheRunState();
        Check.end();
    }

    /** "`image[SIZE-1]` becomes b", for every b from 0 to 255. */
    private static void everyByte() {
        for (int b = 0; b <= 255; b++) {
            ReasmDisasm x = Check.load(b);
            Check.imageIs("a byte alone", x, b);
        }
    }

    /** "Otherwise it answers true, SIZE grows by 1." */
    private static void growsByOne() {
        ReasmDisasm x = new ReasmDisasm(64);
        int[] bytes = new int[64];
        for (int i = 0; i < 64; i++) {
            bytes[i] = (i * 85) % 256;
            Check.due("putByte(" + bytes[i] + ")", x.putByte(bytes[i]), true);
            Check.due("size", x.count(ReasmDisasm.K_SIZE), i + 1);
        }
        Check.imageIs("after appending", x, bytes);
    }

    /** "It is refused (answers false and changes nothing, analysis included) if b<0 or b>255." */
    private static void refusesWrongBytes() {
        ReasmDisasm x = Check.analysed(1, 2, 1, 1, 7, 0, 0);
        Check.run(x, ReasmDisasm.MEM_OUTPUT, 0, 100);
        String before = Check.state(x);
        for (int b : Check.outside(0, 256)) {
            Check.refused("putByte(" + b + ")", x.putByte(b), x, before);
        }
        Check.imageIs("after refusals", x, 1, 1, 7, 0, 0);
        Check.functionsAre("after refusals", x, 2);
        Check.put(x, 255, 0);
        Check.imageIs("after refusals and more", x, 1, 1, 7, 0, 0, 255, 0);
    }

    private static void refusesWrongBytesWhenEmpty() {
        ReasmDisasm x = new ReasmDisasm(8);
        String before = Check.state(x);
        for (int b : Check.outside(0, 256)) {
            Check.refused("putByte(" + b + ") on an empty image", x.putByte(b), x, before);
        }
        Check.put(x, 1, 2, 3, 4, 5, 6, 7, 8);
        Check.imageIs("filled after refusals", x, 1, 2, 3, 4, 5, 6, 7, 8);
    }

    /** "Or if SIZE equals the capacity." */
    private static void refusesWhenFull() {
        for (int capacity : new int[] {8, 9, 40, 63, 64}) {
            ReasmDisasm x = new ReasmDisasm(capacity);
            int[] bytes = new int[capacity];
            for (int i = 0; i < capacity; i++) {
                bytes[i] = 255 - i;
            }
            Check.put(x, bytes);
            Check.enter(x, 1, capacity - 1);
            Check.analyse(x, 3);
            Check.run(x, ReasmDisasm.MEM_OUTPUT, 0, 5);
            String before = Check.state(x);
            for (int b : new int[] {0, 1, 128, 255}) {
                Check.refused("putByte(" + b + ") at capacity " + capacity, x.putByte(b), x, before);
            }
            Check.imageIs("at capacity " + capacity, x, bytes);
        }
    }

    private static void refusesBothAtOnce() {
        ReasmDisasm x = new ReasmDisasm(8);
        Check.put(x, 1, 2, 3, 4, 5, 6, 7, 8);
        Check.enter(x, 0);
        Check.analyse(x, 0);
        String before = Check.state(x);
        for (int b : Check.outside(0, 256)) {
            Check.refused("putByte(" + b + ") at capacity", x.putByte(b), x, before);
        }
    }

    /** A refusal takes no place: one byte below the capacity still one byte is taken. */
    private static void lastFreePlace() {
        ReasmDisasm x = new ReasmDisasm(8);
        Check.put(x, 1, 2, 3, 4, 5, 6, 7);
        Check.due("putByte(256)", x.putByte(256), false);
        Check.due("putByte(-1)", x.putByte(-1), false);
        Check.due("the last place", x.putByte(255), true);
        Check.due("above the last place", x.putByte(255), false);
        Check.imageIs("filled", x, 1, 2, 3, 4, 5, 6, 7, 255);
    }

    /** "And the analysis is cleared (not analysed)." */
    private static void clearsTheAnalysis() {
        ReasmDisasm x = Check.analysed(1, 1, 1, 7, 0, 0);
        Check.due("putByte(200)", x.putByte(200), true);
        Check.notAnalysed("after putByte", x);
        Check.due("putByte(256)", x.putByte(256), false);
        Check.notAnalysed("after a refused putByte", x);
    }

    /** "Earlier image bytes and the entries are unchanged." */
    private static void keepsBytesAndEntries() {
        ReasmDisasm x = Check.load(1, 7, 0, 0);
        Check.enter(x, 1, 3);
        Check.due("putByte(200)", x.putByte(200), true);
        Check.due("entries after putByte", x.count(ReasmDisasm.K_ENTRIES), 2);
        Check.imageIs("after putByte", x, 1, 7, 0, 0, 200);
        Check.functionsAre("after putByte", x, 1, 3);
    }

    /** "The run state is kept." */
    private static void keepsTheRunState() {
        ReasmDisasm x = Check.ran(0, 7, 5, 1, 9, 7, 1, 11, 0);
        String run = Check.runState(x);
        Check.put(x, 0);
        Check.same("run state after putByte", Check.runState(x), run);
        ReasmDisasm never = Check.load(1);
        Check.neverRan("after putByte", never);
    }
}
