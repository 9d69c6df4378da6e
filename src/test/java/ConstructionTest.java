/** Promise 1. */
public final class ConstructionTest {
    public static void main(String[] args) {
        capacityIs(Integer.MIN_VALUE, 8);
        capacityIs(-1, 8);
        capacityIs(0, 8);
        capacityIs(7, 8);
        capacityIs(8, 8);
        capacityIs(9, 9);
        capacityIs(33, 33);
        capacityIs(63, 63);
        capacityIs(64, 64);
        capacityIs(65, 64);
        capacityIs(Integer.MAX_VALUE, 64);
        startsEmpty();
        objectsAreApart();
        Check.end();
    }

    private static void capacityIs(int given, int want) {
        ReasmDisasm x = new ReasmDisasm(given);
        int taken = 0;
        while (taken < 1000 && x.putByte(1)) {
            taken++;
        }
        Check.due("bytes taken at capacity " + given, taken, want);
        Check.due("size at capacity " + given, x.count(ReasmDisasm.K_SIZE), want);
    }

    private static void startsEmpty() {
        ReasmDisasm x = new ReasmDisasm(20);
        Check.due("new: size", x.count(ReasmDisasm.K_SIZE), 0);
        Check.due("new: entries", x.count(ReasmDisasm.K_ENTRIES), 0);
        Check.due("new: outSize()", x.outSize(), -1);
        Check.due("new: byteClass(0)", x.byteClass(0), -1);
        for (int k = 0; k <= 8; k++) {
            Check.due("new: count(" + k + ")", x.count(k), -1);
        }
        Check.ended("new", x, ReasmDisasm.RUN_NONE, 0, 0);
        Check.due("new: depth", x.runInfo(ReasmDisasm.INFO_DEPTH), 0);
        Check.registersAre("new", x, 0, 0, 0, 0);
        Check.valuesAre("new", x);
    }

    private static void objectsAreApart() {
        ReasmDisasm one = Check.analysed(1, 0, 7, 0, 0);
        ReasmDisasm other = new ReasmDisasm(64);
        String before = Check.state(other);
        Check.due("run", one.run(0, 0, 9), true);
        Check.same("another object", Check.state(other), before);
    }
}
