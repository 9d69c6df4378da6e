/** Promise 2. */
public final class ResetTest {
    public static void main(String[] args) {
        clearsAll();
        keepsCapacity();
        forgetsEntries();
        forgetsStackAndValues();
        onEmpty();
        Check.end();
    }

    /** An object with bytes, entries, an analysis, and a run that left something in every part of its state. */
    private static ReasmDisasm used(int capacity) {
        ReasmDisasm x = new ReasmDisasm(capacity);
        Check.put(x, 2, 3, 9, 7, 3, 11, 0, 0, 1, 1);
        Check.due("addEntry(0)", x.addEntry(0), true);
        Check.due("addEntry(8)", x.addEntry(8), true);
        Check.due("analyse(2)", x.analyse(2), true);
        Check.due("run", x.run(0, 0, 8), true);
        Check.ended("used", x, ReasmDisasm.RUN_STEPS, 8, 5);
        Check.valuesAre("used", x, 9, 9, 9);
        Check.registersAre("used", x, 0, 0, 0, 9);
        Check.due("used: depth", x.runInfo(ReasmDisasm.INFO_DEPTH), 2);
        return x;
    }

    private static void clearsAll() {
        ReasmDisasm x = used(64);
        x.reset();
        Check.same("after reset", Check.state(x), Check.state(new ReasmDisasm(64)));
        Check.due("analyse after reset", x.analyse(0), false);
        Check.due("run after reset", x.run(0, 0, 1), false);
    }

    private static void keepsCapacity() {
        ReasmDisasm x = used(11);
        x.reset();
        for (int i = 0; i < 11; i++) {
            Check.due("putByte after reset", x.putByte(i), true);
        }
        Check.due("putByte above the kept capacity", x.putByte(0), false);
        Check.imageIs("after reset", x, 0, 1, 2, 3, 4, 5, 6, 7, 8, 9, 10);
    }

    private static void forgetsEntries() {
        ReasmDisasm x = new ReasmDisasm(64);
        Check.put(x, 0, 0, 0, 0, 0, 0, 0, 0, 0);
        for (int a = 0; a < 8; a++) {
            Check.due("addEntry", x.addEntry(a), true);
        }
        x.reset();
        Check.put(x, 0, 0, 0, 0, 0, 0, 0, 0, 0);
        Check.due("addEntry(3) after reset", x.addEntry(3), true);
        Check.due("analyse", x.analyse(1), true);
        Check.functionsAre("after reset", x, 3);
        for (int a = 0; a < 9; a++) {
            Check.due("addEntry after reset", x.addEntry(a), a != 3 && a < 8);
        }
    }

    private static void forgetsStackAndValues() {
        ReasmDisasm x = used(64);
        x.reset();
        Check.put(x, 7, 3, 12);
        Check.due("run", x.run(0, 0, 9), true);
        Check.ended("RET on an empty stack", x, ReasmDisasm.RUN_FAULT, 1, 2);
        Check.valuesAre("after reset", x, 0);
    }

    private static void onEmpty() {
        ReasmDisasm x = new ReasmDisasm(30);
        String before = Check.state(x);
        x.reset();
        x.reset();
        Check.same("reset of an empty object", Check.state(x), before);
    }
}
