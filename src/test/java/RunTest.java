/** Promise 13: what run refuses, its memories, and what it clears. Each method holds to the sentence above it. */
public final class RunTest {
    private static final int IMAGE = ReasmDisasm.MEM_IMAGE;
    private static final int OUTPUT = ReasmDisasm.MEM_OUTPUT;
    private static final int HALTED = ReasmDisasm.RUN_HALTED;
    private static final int FAULT = ReasmDisasm.RUN_FAULT;
    private static final int STEPS = ReasmDisasm.RUN_STEPS;

    public static void main(String[] args) {
        wrongMemories();
        wrongStepLimits();
        wrongStarts();
        wrongStartsOfAFullImage();
        notAnalysed();
        manyWrongAtOnce();
        previousRunStays();
        refusedBeforeAnyRun();
        onTheImage();
        onTheOutput();
        startsWhereAddressesMove();
        sizeOfTheOutput();
        outputOfTheLastAnalysis();
        changesOnlyTheRun();
        clearsRegisters();
        clearsTheStack();
        clearsTheValues();
        clearsTheSteps();
        Check.end();
    }

    /** An analysed object whose run left a value out, a register, a depth, and a pc that is not 0. */
    private static ReasmDisasm used() {
        ReasmDisasm x = Check.analysedFrom(new int[] {0, 3}, 2, 2, 3, 7, 7, 3, 11, 8, 99, 0);
        Check.run(x, IMAGE, 0, 10);
        Check.ended("used", x, HALTED, 4, 8);
        return x;
    }

    private static void refused(ReasmDisasm x, int which, int start, int maxSteps) {
        String before = Check.state(x);
        Check.refused("run(" + which + ", " + start + ", " + maxSteps + ")", x.run(which, start, maxSteps), x, before);
    }

    /** "Which is not `MEM_IMAGE` and not `MEM_OUTPUT`." */
    private static void wrongMemories() {
        ReasmDisasm x = used();
        for (int which : Check.outside(0, 2)) {
            refused(x, which, 0, 10);
        }
    }

    /** "maxSteps<1 or maxSteps>2000." */
    private static void wrongStepLimits() {
        ReasmDisasm x = used();
        for (int which = IMAGE; which <= OUTPUT; which++) {
            for (int maxSteps : Check.outside(1, 2001)) {
                refused(x, which, 0, maxSteps);
            }
            Check.run(x, which, 0, 1);
            Check.due("steps of 1", x.runInfo(ReasmDisasm.INFO_STEPS), 1);
            Check.run(x, which, 0, 2000);
            Check.due("status at 2000", x.runInfo(ReasmDisasm.INFO_STATUS), HALTED);
        }
    }

    /** "start<0 or start>=SIZE", though the output is longer. */
    private static void wrongStarts() {
        ReasmDisasm x = used();
        for (int which = IMAGE; which <= OUTPUT; which++) {
            for (int start : Check.outside(0, 9)) {
                refused(x, which, start, 10);
            }
            for (int start = 9; start <= 256; start++) {
                refused(x, which, start, 10);
            }
            for (int start = 0; start < 9; start++) {
                Check.run(x, which, start, 10);
            }
        }
        refused(new ReasmDisasm(64), IMAGE, 0, 1);
    }

    private static void wrongStartsOfAFullImage() {
        ReasmDisasm x = Check.analysed(3, 1, Check.full(0));
        for (int which = IMAGE; which <= OUTPUT; which++) {
            Check.run(x, which, 63, 10);
            refused(x, which, 64, 10);
            refused(x, which, 65, 10);
        }
    }

    /** "which==`MEM_OUTPUT` and not analysed"; the image runs all the same. */
    private static void notAnalysed() {
        ReasmDisasm x = Check.load(7, 0, 0);
        imageOnly(x);
        Check.enter(x, 0);
        imageOnly(x);
        Check.analyse(x, 1);
        Check.run(x, OUTPUT, 0, 9);
        Check.put(x, 0);
        imageOnly(x);
        Check.analyse(x, 1);
        Check.enter(x, 1);
        imageOnly(x);
        Check.analyse(x, 1);
        x.reset();
        Check.put(x, 7, 0, 0);
        imageOnly(x);
    }

    private static void imageOnly(ReasmDisasm x) {
        refused(x, OUTPUT, 0, 9);
        Check.run(x, IMAGE, 0, 9);
        Check.ended("image without analysis", x, HALTED, 2, 2);
        refused(x, OUTPUT, 0, 9);
    }

    private static void manyWrongAtOnce() {
        ReasmDisasm x = used();
        refused(x, 2, -1, 0);
        refused(x, -1, 9, 2001);
        refused(x, OUTPUT, -1, 0);
        ReasmDisasm empty = new ReasmDisasm(8);
        refused(empty, OUTPUT, 0, 1);
        refused(empty, 2, 0, 0);
    }

    /** "Each refusal answers false and changes nothing (the previous run state stays)", however that run ended. */
    private static void previousRunStays() {
        int[][] runs = {{0, 10}, {0, 3}, {7, 10}};
        int[] ends = {HALTED, STEPS, FAULT};
        for (int i = 0; i < runs.length; i++) {
            ReasmDisasm x = used();
            Check.run(x, IMAGE, runs[i][0], runs[i][1]);
            Check.due("how it ended", x.runInfo(ReasmDisasm.INFO_STATUS), ends[i]);
            refused(x, 2, 0, 10);
            refused(x, IMAGE, 0, 0);
            refused(x, OUTPUT, 0, 2001);
            refused(x, IMAGE, -1, 10);
            refused(x, OUTPUT, 9, 10);
            Check.put(x, 0);
            refused(x, OUTPUT, 0, 10);
        }
    }

    private static void refusedBeforeAnyRun() {
        ReasmDisasm x = Check.load(2, 0, 9, 0);
        refused(x, 2, 0, 10);
        refused(x, IMAGE, 4, 10);
        refused(x, IMAGE, 0, 0);
        refused(x, OUTPUT, 0, 10);
        Check.neverRan("after refusals", x);
    }

    /** "With `MEM_IMAGE` it runs on the image (n=SIZE) with pc=start", whatever the analysis moved. */
    private static void onTheImage() {
        ReasmDisasm x = Check.analysed(3, 0, 11, 4, 0, 99, 3, 0, 4, 7, 0, 12);
        Check.run(x, IMAGE, 0, 20);
        Check.ended("image", x, HALTED, 5, 2);
        Check.valuesAre("image", x, 4);
        for (int start = 0; start < 64; start++) {
            ReasmDisasm halts = Check.analysedFrom(new int[] {1, 2, 3}, 3, new int[64]);
            Check.run(halts, IMAGE, start, 1);
            Check.ended("image from " + start, halts, HALTED, 1, start);
        }
    }

    /** "With `MEM_OUTPUT` it runs on `out`." */
    private static void onTheOutput() {
        // CALL 4, HALT, a free byte, then LEA, OUT and RET: the call goes over the padding.
        ReasmDisasm x = Check.analysed(3, 0, 11, 4, 0, 99, 3, 0, 4, 7, 0, 12);
        Check.run(x, OUTPUT, 0, 20);
        Check.ended("output", x, HALTED, 5, 2);
        Check.valuesAre("output", x, 7);
        Check.run(x, OUTPUT, 4, 20);
        Check.ended("output from the function", x, FAULT, 2, 12);
        Check.run(x, OUTPUT, 3, 20);
        Check.ended("output from data", x, FAULT, 0, 3);
        // Falling into a function runs its padding as NOPs.
        ReasmDisasm fall = Check.analysed(3, 1, 1, 0);
        Check.run(fall, OUTPUT, 0, 9);
        Check.ended("through the padding", fall, HALTED, 5, 4);
        Check.run(fall, OUTPUT, 0, 4);
        Check.ended("to the end of the padding", fall, STEPS, 4, 4);
    }

    /** "With pc=`M(start)`": just before a function, at it, and at the last address. */
    private static void startsWhereAddressesMove() {
        ReasmDisasm x = Check.analysedFrom(new int[] {0, 1, 63}, 3, new int[64]);
        int[] starts = {0, 1, 2, 62, 63};
        int[] moved = {0, 4, 5, 65, 69};
        for (int i = 0; i < starts.length; i++) {
            Check.run(x, OUTPUT, starts[i], 1);
            Check.ended("output from " + starts[i], x, HALTED, 1, moved[i]);
        }
    }

    /** "(n=OUTSIZE)": what lies past the image but in the output is there in the output alone. */
    private static void sizeOfTheOutput() {
        // LDX R0 at 5, 6 and 7 where SIZE is 5 and OUTSIZE is 7; none of these is symbolic.
        ReasmDisasm five = Check.analysedFrom(new int[] {0, 4}, 2, 6, 0, 5, 0, 0);
        Check.run(five, IMAGE, 0, 9);
        Check.ended("LDX at SIZE in the image", five, FAULT, 0, 0);
        Check.run(five, OUTPUT, 0, 9);
        Check.ended("LDX at SIZE in the output", five, HALTED, 4, 6);
        Check.registersAre("LDX at SIZE in the output", five, 1, 0, 0, 0);
        ReasmDisasm six = Check.analysedFrom(new int[] {0, 4}, 2, 6, 0, 6, 0, 0);
        Check.run(six, OUTPUT, 0, 9);
        Check.ended("LDX of the last byte", six, HALTED, 4, 6);
        ReasmDisasm seven = Check.analysedFrom(new int[] {0, 4}, 2, 6, 0, 7, 0, 0);
        Check.run(seven, OUTPUT, 0, 9);
        Check.ended("LDX at OUTSIZE", seven, FAULT, 0, 0);
        // JMPT at 4, 5 and 6 where SIZE is 4 and OUTSIZE is 6.
        ReasmDisasm four = Check.analysedFrom(new int[] {0, 3}, 2, 13, 0, 4, 0);
        Check.run(four, IMAGE, 0, 9);
        Check.ended("JMPT at SIZE in the image", four, FAULT, 0, 0);
        Check.run(four, OUTPUT, 0, 9);
        Check.ended("JMPT at SIZE in the output", four, HALTED, 2, 1);
        ReasmDisasm last = Check.analysedFrom(new int[] {0, 3}, 2, 13, 0, 5, 0);
        Check.run(last, OUTPUT, 0, 1);
        Check.ended("JMPT through the last byte", last, STEPS, 1, 0);
        ReasmDisasm past = Check.analysedFrom(new int[] {0, 3}, 2, 13, 0, 6, 0);
        Check.run(past, OUTPUT, 0, 9);
        Check.ended("JMPT at OUTSIZE", past, FAULT, 0, 0);
    }

    private static void outputOfTheLastAnalysis() {
        ReasmDisasm x = Check.analysed(3, 1, 1, 0);
        Check.analyse(x, 1);
        Check.due("analyse(4)", x.analyse(4), false);
        Check.run(x, OUTPUT, 0, 9);
        Check.ended("after analyse(1)", x, HALTED, 3, 2);
        // A jump into what only the longer, earlier output held is past the end.
        ReasmDisasm y = Check.analysed(3, 1, 0, 8, 5);
        Check.analyse(y, 0);
        Check.run(y, OUTPUT, 1, 9);
        Check.ended("past the shorter output", y, FAULT, 1, 5);
    }

    /** "The memory is only read, never written; the image, entries and analysis are unchanged." */
    private static void changesOnlyTheRun() {
        ReasmDisasm x = Check.analysed(2, 0, 11, 4, 0, 99, 3, 0, 4, 7, 0, 12);
        String before = Check.imageState(x);
        for (int which = IMAGE; which <= OUTPUT; which++) {
            for (int start = 0; start < 10; start++) {
                Check.run(x, which, start, 50);
                Check.same("image after run", Check.imageState(x), before);
            }
        }
        Check.imageIs("image after runs", x, 11, 4, 0, 99, 3, 0, 4, 7, 0, 12);
        Check.due("entries after runs", x.addEntry(0), false);
    }

    /** "Before the loop the old run state is cleared: all registers 0." */
    private static void clearsRegisters() {
        ReasmDisasm x = Check.ran(0, 9, 2, 0, 1, 2, 1, 2, 2, 2, 3, 2, 3, 4, 0);
        Check.registersAre("first run", x, 1, 2, 3, 4);
        Check.run(x, IMAGE, 12, 9);
        Check.registersAre("second run", x, 0, 0, 0, 0);
        Check.run(x, IMAGE, 3, 1);
        Check.registersAre("third run", x, 0, 2, 0, 0);
    }

    /** "Stack empty", where it was full. */
    private static void clearsTheStack() {
        ReasmDisasm x = Check.ran(0, 99, 11, 0, 12);
        Check.due("depth", x.runInfo(ReasmDisasm.INFO_DEPTH), 8);
        Check.run(x, IMAGE, 2, 9);
        Check.ended("RET at once", x, FAULT, 0, 2);
        Check.due("depth", x.runInfo(ReasmDisasm.INFO_DEPTH), 0);
        Check.run(x, IMAGE, 0, 99);
        Check.ended("eight calls again", x, FAULT, 8, 0);
        Check.due("depth", x.runInfo(ReasmDisasm.INFO_DEPTH), 8);
    }

    /** "Out list empty", where it was full. */
    private static void clearsTheValues() {
        ReasmDisasm x = Check.ran(0, 99, 5, 1, 3, 7, 1, 8, 0, 7, 2, 0);
        Check.due("values", x.runInfo(ReasmDisasm.INFO_OUTCOUNT), 16);
        Check.run(x, IMAGE, 7, 9);
        Check.valuesAre("second run", x, 0);
        Check.run(x, IMAGE, 0, 99);
        Check.due("values again", x.runInfo(ReasmDisasm.INFO_OUTCOUNT), 16);
        Check.due("first value again", x.runOut(0), 3);
    }

    /** "Steps 0", where they were 2000. */
    private static void clearsTheSteps() {
        ReasmDisasm x = Check.ran(0, 2000, 8, 0, 1, 0);
        Check.ended("first run", x, STEPS, 2000, 0);
        Check.run(x, IMAGE, 2, 9);
        Check.ended("second run", x, HALTED, 2, 3);
        Check.run(x, IMAGE, 0, 2000);
        Check.ended("third run", x, STEPS, 2000, 0);
    }
}
