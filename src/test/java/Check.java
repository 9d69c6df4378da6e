/** What the tests share: comparing answers, loading images, and reading all that an object answers. */
final class Check {
    private static int wrong = 0;

    private Check() {
    }

    static void due(String what, long got, long want) {
        if (got != want) {
            wrong++;
            System.out.println(what + " answered " + got + ", due is " + want);
        }
    }

    static void due(String what, boolean got, boolean want) {
        if (got != want) {
            wrong++;
            System.out.println(what + " answered " + got + ", due is " + want);
        }
    }

    static void same(String what, String got, String want) {
        if (!got.equals(want)) {
            wrong++;
            System.out.println(what + ": the state is\n  " + got + "\ndue is\n  " + want);
        }
    }

    /** A refused call answers false, and every answer stays what it was before. */
    static void refused(String what, boolean answer, ReasmDisasm x, String before) {
        due(what, answer, false);
        same("refused " + what, state(x), before);
    }

    /** Numbers outside first..end-1: the nearest, the farthest, and some that are inside once bits are cut off. */
    static int[] outside(int first, int end) {
        return new int[] {
            first - 1, first - 2, first - 256, first - 65536, Integer.MIN_VALUE,
            end, end + 1, first + 65536, Integer.MAX_VALUE,
        };
    }

    /** Ends a test's main method. */
    static void end() {
        if (wrong != 0) {
            System.out.println(wrong + " answers are not as due");
            System.exit(1);
        }
    }

    /** A new object of capacity 64 that holds the bytes. */
    static ReasmDisasm load(int... bytes) {
        ReasmDisasm x = new ReasmDisasm(64);
        put(x, bytes);
        return x;
    }

    static void put(ReasmDisasm x, int... bytes) {
        for (int b : bytes) {
            due("putByte(" + b + ")", x.putByte(b), true);
        }
    }

    static void enter(ReasmDisasm x, int... entries) {
        for (int a : entries) {
            due("addEntry(" + a + ")", x.addEntry(a), true);
        }
    }

    static void analyse(ReasmDisasm x, int pad) {
        due("analyse(" + pad + ")", x.analyse(pad), true);
    }

    static void run(ReasmDisasm x, int which, int start, int maxSteps) {
        due("run(" + which + ", " + start + ", " + maxSteps + ")", x.run(which, start, maxSteps), true);
    }

    /** A new object that holds the bytes, with the one entry, analysed. */
    static ReasmDisasm analysed(int pad, int entry, int... bytes) {
        return analysedFrom(new int[] {entry}, pad, bytes);
    }

    /** A new object that holds the bytes, with all the entries, analysed. */
    static ReasmDisasm analysedFrom(int[] entries, int pad, int... bytes) {
        ReasmDisasm x = load(bytes);
        enter(x, entries);
        analyse(x, pad);
        return x;
    }

    /** A new object that holds the bytes, run as the image. */
    static ReasmDisasm ran(int start, int maxSteps, int... bytes) {
        ReasmDisasm x = load(bytes);
        run(x, ReasmDisasm.MEM_IMAGE, start, maxSteps);
        return x;
    }

    /** No answer tells of an analysis. */
    static void notAnalysed(String what, ReasmDisasm x) {
        for (int k = 0; k <= 8; k++) {
            due(what + ": count(" + k + ")", x.count(k), -1);
        }
        due(what + ": outSize()", x.outSize(), -1);
        for (int q = 0; q < 64; q++) {
            due(what + ": byteClass(" + q + ")", x.byteClass(q), -1);
            due(what + ": isSymbolic(" + q + ")", x.isSymbolic(q), false);
            due(what + ": isFunctionStart(" + q + ")", x.isFunctionStart(q), false);
            due(what + ": outByte(" + q + ")", x.outByte(q), -1);
            due(what + ": mapAddr(" + q + ")", x.mapAddr(q), -1);
        }
        due(what + ": run on the output", x.run(ReasmDisasm.MEM_OUTPUT, 0, 1), false);
    }

    /** The run state of an object that never ran. */
    static void neverRan(String what, ReasmDisasm x) {
        ended(what, x, ReasmDisasm.RUN_NONE, 0, 0);
        due(what + ": depth", x.runInfo(ReasmDisasm.INFO_DEPTH), 0);
        registersAre(what, x, 0, 0, 0, 0);
        valuesAre(what, x);
    }

    /** The bytes at the end of a full image of NOPs. */
    static int[] full(int... last) {
        int[] bytes = new int[64];
        java.util.Arrays.fill(bytes, ReasmDisasm.OP_NOP);
        System.arraycopy(last, 0, bytes, 64 - last.length, last.length);
        return bytes;
    }

    /** Analyses without padding, so that the image can be read back whole. */
    static void imageIs(String what, ReasmDisasm x, int... bytes) {
        if (x.count(ReasmDisasm.K_ENTRIES) == 0) {
            due(what + ": addEntry(0)", x.addEntry(0), true);
        }
        due(what + ": analyse(0)", x.analyse(0), true);
        outIs(what, x, bytes);
    }

    static void outIs(String what, ReasmDisasm x, int... bytes) {
        due(what + ": outSize()", x.outSize(), bytes.length);
        for (int i = 0; i < bytes.length; i++) {
            due(what + ": outByte(" + i + ")", x.outByte(i), bytes[i]);
        }
    }

    static void classesAre(String what, ReasmDisasm x, int... classes) {
        for (int q = 0; q < classes.length; q++) {
            due(what + ": byteClass(" + q + ")", x.byteClass(q), classes[q]);
        }
    }

    /** Expects exactly the positions to be symbolic. */
    static void symbolsAre(String what, ReasmDisasm x, int... positions) {
        for (int q = -1; q <= 65; q++) {
            due(what + ": isSymbolic(" + q + ")", x.isSymbolic(q), contains(positions, q));
        }
        due(what + ": count(K_SYMBOLS)", x.count(ReasmDisasm.K_SYMBOLS), positions.length);
    }

    /** Expects exactly the positions to be function starts. */
    static void functionsAre(String what, ReasmDisasm x, int... positions) {
        for (int q = -1; q <= 65; q++) {
            due(what + ": isFunctionStart(" + q + ")", x.isFunctionStart(q), contains(positions, q));
        }
        due(what + ": count(K_FUNCS)", x.count(ReasmDisasm.K_FUNCS), positions.length);
    }

    static boolean contains(int[] positions, int q) {
        for (int position : positions) {
            if (position == q) {
                return true;
            }
        }
        return false;
    }

    static void ended(String what, ReasmDisasm x, int status, int steps, int pc) {
        due(what + ": status", x.runInfo(ReasmDisasm.INFO_STATUS), status);
        due(what + ": steps", x.runInfo(ReasmDisasm.INFO_STEPS), steps);
        due(what + ": pc", x.runInfo(ReasmDisasm.INFO_PC), pc);
    }

    static void registersAre(String what, ReasmDisasm x, int r0, int r1, int r2, int r3) {
        due(what + ": R[0]", x.runReg(0), r0);
        due(what + ": R[1]", x.runReg(1), r1);
        due(what + ": R[2]", x.runReg(2), r2);
        due(what + ": R[3]", x.runReg(3), r3);
    }

    static void valuesAre(String what, ReasmDisasm x, int... values) {
        due(what + ": values out", x.runInfo(ReasmDisasm.INFO_OUTCOUNT), values.length);
        for (int i = 0; i < values.length; i++) {
            due(what + ": runOut(" + i + ")", x.runOut(i), values[i]);
        }
        for (int i = values.length; i <= 17; i++) {
            due(what + ": runOut(" + i + ")", x.runOut(i), -1);
        }
    }

    /** Every answer of every asking method, in reach and just out of reach. */
    static String state(ReasmDisasm x) {
        return imageState(x) + " | " + runState(x);
    }

    static String imageState(ReasmDisasm x) {
        StringBuilder all = new StringBuilder("counts");
        for (int k = -1; k <= 11; k++) {
            all.append(' ').append(x.count(k));
        }
        all.append(" classes");
        for (int q = -1; q <= 65; q++) {
            all.append(' ').append(x.byteClass(q)).append(x.isSymbolic(q) ? "s" : "");
            all.append(x.isFunctionStart(q) ? "f" : "").append('@').append(x.mapAddr(q));
        }
        all.append(" out ").append(x.outSize()).append(':');
        for (int i = -1; i <= 256; i++) {
            all.append(' ').append(x.outByte(i));
        }
        return all.toString();
    }

    static String runState(ReasmDisasm x) {
        StringBuilder all = new StringBuilder("run");
        for (int k = -1; k <= 5; k++) {
            all.append(' ').append(x.runInfo(k));
        }
        all.append(" registers");
        for (int i = -1; i <= 4; i++) {
            all.append(' ').append(x.runReg(i));
        }
        all.append(" values");
        for (int i = -1; i <= 17; i++) {
            all.append(' ').append(x.runOut(i));
        }
        return all.toString();
    }
}
