/** All promises: many runs of calls, each answer compared with the model's. */
public final class ModelTest {
    private static final int RUNS = 4000;
    private static final int CALLS = 12;

    // A fixed sequence of numbers, so that every run of this test makes the same calls.
    private static long seed = 20261115L;

    private static ReasmDisasm x;
    private static Model model;
    private static String calls;
    // Enough to see what is wrong; the rest would only repeat it.
    private static int shown = 0;

    public static void main(String[] args) {
        for (int run = 0; run < RUNS && shown < 20; run++) {
            int capacity = below(4) == 0 ? below(80) - 8 : 64;
            x = new ReasmDisasm(capacity);
            model = new Model(capacity);
            calls = "new(" + capacity + ")";
            fill();
            for (int i = 0; i < CALLS && shown < 20; i++) {
                call();
                askAll();
            }
        }
        Check.end();
    }

    private static int below(int bound) {
        seed = seed * 6364136223846793005L + 1442695040888963407L;
        return (int) ((seed >>> 33) % bound);
    }

    private static void due(String call, int got, int want) {
        if (got != want) {
            shown++;
            Check.due(calls + ": " + call, got, want);
        }
    }

    private static void did(String call, boolean got, boolean want) {
        calls = calls + " " + call;
        due(call, got ? 1 : 0, want ? 1 : 0);
    }

    private static void put(int b) {
        did("putByte(" + b + ")", x.putByte(b), model.putByte(b));
    }

    private static void enter(int a) {
        did("addEntry(" + a + ")", x.addEntry(a), model.addEntry(a));
    }

    private static void analyse(int pad) {
        did("analyse(" + pad + ")", x.analyse(pad), model.analyse(pad));
    }

    private static void run(int which, int start, int maxSteps) {
        did("run(" + which + "," + start + "," + maxSteps + ")", x.run(which, start, maxSteps),
            model.run(which, start, maxSteps));
    }

    private static void fill() {
        int size = 1 + below(64);
        while (x.count(ReasmDisasm.K_SIZE) < size) {
            int before = x.count(ReasmDisasm.K_SIZE);
            putInstruction(size);
            if (x.count(ReasmDisasm.K_SIZE) == before) {
                break;
            }
        }
        for (int i = below(4); i >= 0; i--) {
            enter(below(size));
        }
        analyse(below(4));
    }

    /** Mostly an instruction that is valid; often a guarded table jump; at times any byte. */
    private static void putInstruction(int size) {
        int kind = below(10);
        if (kind == 0) {
            put(below(256));
        } else if (kind <= 2) {
            putTableJump(size);
        } else {
            putForm(below(16), size);
        }
    }

    private static void putTableJump(int size) {
        int r = below(4);
        int k = below(8) == 0 ? below(20) : 1 + below(4);
        put(below(10) == 0 ? 9 : 10);
        put(below(10) == 0 ? below(5) : r);
        put(k);
        put(below(size + 2));
        put(13);
        put(r);
        put(below(size + 2));
    }

    private static void putForm(int op, int size) {
        String[] forms = {"", "", "rk", "ra", "rr", "rk", "rar", "r", "a", "rka", "rka", "a", "", "ra", "r", ""};
        put(op);
        for (char letter : forms[op].toCharArray()) {
            if (letter == 'r') {
                put(below(30) == 0 ? below(256) : below(4));
            } else if (letter == 'a') {
                put(below(10) == 0 ? below(256) : below(size + 1));
            } else {
                put(below(2) == 0 ? below(4) : below(256));
            }
        }
    }

    private static void call() {
        int size = x.count(ReasmDisasm.K_SIZE);
        switch (below(12)) {
            case 0 -> put(below(260) - 2);
            case 1 -> enter(below(size + 3) - 1);
            case 2, 3 -> analyse(below(6) - 1);
            case 4 -> resetAtTimes();
            case 5, 6, 7, 8 -> run(below(2), below(size + 2) - 1, 1 + below(60));
            case 9, 10 -> run(1, below(size + 1), 2000);
            default -> run(below(4) - 1, below(size + 2) - 1, below(2010) - 3);
        }
    }

    private static void resetAtTimes() {
        if (below(3) == 0) {
            calls = calls + " reset()";
            x.reset();
            model.reset();
            fill();
        }
    }

    private static void askAll() {
        due("outSize()", x.outSize(), model.outSize());
        for (int k = -1; k <= 11; k++) {
            due("count(" + k + ")", x.count(k), model.count(k));
            due("runInfo(" + k + ")", x.runInfo(k), model.runInfo(k));
        }
        for (int q = -1; q <= 65; q++) {
            due("byteClass(" + q + ")", x.byteClass(q), model.byteClass(q));
            due("isSymbolic(" + q + ")", x.isSymbolic(q) ? 1 : 0, model.isSymbolic(q) ? 1 : 0);
            due("isFunctionStart(" + q + ")", x.isFunctionStart(q) ? 1 : 0, model.isFunctionStart(q) ? 1 : 0);
            due("mapAddr(" + q + ")", x.mapAddr(q), model.mapAddr(q));
        }
        for (int i = -1; i <= 254; i++) {
            due("outByte(" + i + ")", x.outByte(i), model.outByte(i));
        }
        for (int i = -1; i <= 17; i++) {
            due("runReg(" + i + ")", x.runReg(i), model.runReg(i));
            due("runOut(" + i + ")", x.runOut(i), model.runOut(i));
        }
    }
}
