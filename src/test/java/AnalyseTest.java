/** Promise 5. Each method holds to the sentence above it. */
public final class AnalyseTest {
    // MOVI, CALL, OUT, HALT, a table, then a guarded table jump with its three cases and a byte of data.
    private static final int[] PROGRAM = {
        2, 0, 2, 11, 11, 7, 0, 0, 18, 22, 23, 10, 0, 3, 22, 13, 0, 8, 5, 0, 10, 12, 12, 6, 0, 28, 1, 12, 77,
    };

    public static void main(String[] args) {
        everyPad();
        refusesWrongPads();
        refusesEmptyImage();
        refusesWithoutEntries();
        refusesAllAtOnce();
        earlierStaysInForce();
        replacesTheEarlierOne();
        replacesThatOfAnotherImage();
        keepsTheRest();
        withoutPadding();
        withPadding();
        smallest();
        Check.end();
    }

    /** "Otherwise it computes the analysis ... It answers true", for each pad from 0 to 3. */
    private static void everyPad() {
        for (int pad = 0; pad <= 3; pad++) {
            ReasmDisasm x = Check.load(1, 0);
            Check.enter(x, 1);
            Check.due("analyse(" + pad + ")", x.analyse(pad), true);
            Check.due("outSize()", x.outSize(), 2 + pad);
        }
    }

    /** "`analyse(pad)` is refused (false, nothing changes ...) if any holds: pad<0; pad>3." */
    private static void refusesWrongPads() {
        ReasmDisasm x = Check.load(1, 7, 0, 0);
        Check.enter(x, 1);
        Check.run(x, ReasmDisasm.MEM_IMAGE, 0, 9);
        String before = Check.state(x);
        for (int pad : Check.outside(0, 4)) {
            Check.refused("analyse(" + pad + ")", x.analyse(pad), x, before);
        }
        Check.notAnalysed("after refusals", x);
    }

    /** "SIZE==0." */
    private static void refusesEmptyImage() {
        ReasmDisasm x = new ReasmDisasm(64);
        String before = Check.state(x);
        for (int pad = 0; pad <= 3; pad++) {
            Check.refused("analyse(" + pad + ") on an empty image", x.analyse(pad), x, before);
        }
        ReasmDisasm emptied = Check.analysed(1, 0, PROGRAM);
        emptied.reset();
        Check.due("analyse after reset", emptied.analyse(1), false);
        Check.notAnalysed("after reset", emptied);
    }

    /** "There are no entries." */
    private static void refusesWithoutEntries() {
        for (int size = 1; size <= 64; size++) {
            ReasmDisasm x = Check.load(new int[size]);
            String before = Check.state(x);
            Check.refused("analyse without entries", x.analyse(0), x, before);
            Check.refused("analyse without entries", x.analyse(3), x, before);
        }
        ReasmDisasm again = Check.analysed(1, 0, PROGRAM);
        again.reset();
        Check.put(again, PROGRAM);
        Check.due("analyse without entries after reset", again.analyse(1), false);
        Check.notAnalysed("without entries after reset", again);
    }

    private static void refusesAllAtOnce() {
        ReasmDisasm x = new ReasmDisasm(64);
        String before = Check.state(x);
        for (int pad : Check.outside(0, 4)) {
            Check.refused("analyse(" + pad + ") on an empty image", x.analyse(pad), x, before);
        }
        Check.put(x, 0);
        before = Check.state(x);
        for (int pad : Check.outside(0, 4)) {
            Check.refused("analyse(" + pad + ") without entries", x.analyse(pad), x, before);
        }
    }

    /** "An earlier analysis stays in force." */
    private static void earlierStaysInForce() {
        for (int earlier = 0; earlier <= 3; earlier++) {
            ReasmDisasm x = Check.analysed(earlier, 0, PROGRAM);
            Check.run(x, ReasmDisasm.MEM_OUTPUT, 0, 500);
            String before = Check.state(x);
            for (int pad : Check.outside(0, 4)) {
                Check.refused("analyse(" + pad + ")", x.analyse(pad), x, before);
            }
            Check.run(x, ReasmDisasm.MEM_OUTPUT, 0, 500);
            Check.same("run on the output after refusals", Check.state(x), before);
        }
    }

    /** "Replacing any earlier analysis." */
    private static void replacesTheEarlierOne() {
        for (int earlier = 0; earlier <= 3; earlier++) {
            for (int pad = 0; pad <= 3; pad++) {
                ReasmDisasm x = Check.analysed(earlier, 0, PROGRAM);
                Check.analyse(x, pad);
                Check.same("analyse(" + pad + ") after analyse(" + earlier + ")", Check.state(x),
                    Check.state(Check.analysed(pad, 0, PROGRAM)));
            }
        }
    }

    private static void replacesThatOfAnotherImage() {
        ReasmDisasm y = Check.analysed(3, 0, 8, 3, 255, 11, 6, 0, 0);
        y.reset();
        Check.put(y, 0, 1, 2, 3, 4, 5, 6);
        Check.enter(y, 0);
        Check.analyse(y, 3);
        Check.same("analysis of another image", Check.state(y),
            Check.state(Check.analysed(3, 0, 0, 1, 2, 3, 4, 5, 6)));
        // A table at address 0, then an image where nothing is symbolic.
        ReasmDisasm z = Check.analysed(1, 8, 1, 0, 8, 8, 10, 0, 4, 0, 13, 0, 0);
        Check.due("table at 0", z.isSymbolic(0), true);
        z.reset();
        Check.put(z, 0, 0);
        Check.enter(z, 1);
        Check.analyse(z, 1);
        Check.same("analysis without symbols", Check.state(z), Check.state(Check.analysed(1, 1, 0, 0)));
    }

    /** "The image, the entries and the run state are kept." */
    private static void keepsTheRest() {
        ReasmDisasm x = Check.load(PROGRAM);
        Check.enter(x, 0, 18);
        Check.run(x, ReasmDisasm.MEM_IMAGE, 0, 500);
        String run = Check.runState(x);
        for (int pad = 3; pad >= 0; pad--) {
            Check.analyse(x, pad);
            Check.same("run state after analyse", Check.runState(x), run);
            Check.due("size after analyse", x.count(ReasmDisasm.K_SIZE), PROGRAM.length);
            Check.due("entries after analyse", x.count(ReasmDisasm.K_ENTRIES), 2);
        }
        Check.imageIs("image after analyse", x, PROGRAM);
        Check.due("addEntry(0) after analyse", x.addEntry(0), false);
        Check.due("addEntry(18) after analyse", x.addEntry(18), false);
        // A called address is a function start, but no entry.
        Check.due("addEntry(11) after analyse", x.addEntry(11), true);
    }

    /** "The layout without padding reproduces the image byte for byte." */
    private static void withoutPadding() {
        for (int entry = 0; entry < PROGRAM.length; entry++) {
            ReasmDisasm x = Check.analysed(0, entry, PROGRAM);
            Check.outIs("pad 0", x, PROGRAM);
            Check.due("outSize()", x.outSize(), x.count(ReasmDisasm.K_SIZE));
            for (int q = 0; q < PROGRAM.length; q++) {
                Check.due("mapAddr(" + q + ")", x.mapAddr(q), q);
            }
        }
    }

    /** "`outSize() == count(K_SIZE) + p*(count(K_FUNCS) - (isFunctionStart(0) ? 1 : 0))`" and what follows. */
    private static void withPadding() {
        for (int pad = 0; pad <= 3; pad++) {
            for (int entry = 0; entry < PROGRAM.length; entry++) {
                ReasmDisasm x = Check.analysed(pad, entry, PROGRAM);
                int funcs = x.count(ReasmDisasm.K_FUNCS) - (x.isFunctionStart(0) ? 1 : 0);
                Check.due("outSize()", x.outSize(), PROGRAM.length + pad * funcs);
                for (int q = 0; q < PROGRAM.length; q++) {
                    if (!x.isSymbolic(q)) {
                        Check.due("outByte(mapAddr(q))", x.outByte(x.mapAddr(q)), PROGRAM[q]);
                    }
                }
            }
        }
    }

    /** The smallest image that can be analysed: one byte, one entry. */
    private static void smallest() {
        for (int b = 0; b <= 255; b++) {
            ReasmDisasm x = Check.analysed(3, 0, b);
            boolean alone = b == 0 || b == 1 || b == 12;
            Check.due("class of " + b, x.byteClass(0), alone ? ReasmDisasm.CLASS_START : ReasmDisasm.CLASS_BAD);
            Check.outIs("one byte", x, b);
            Check.functionsAre("one byte", x, 0);
            Check.symbolsAre("one byte", x);
        }
    }
}
