/** Promise 9, and F of "The analysis". Each method holds to the sentence above it. */
public final class FunctionStartTest {
    public static void main(String[] args) {
        entries();
        calls();
        belowSize();
        fullImage();
        onlyCalls();
        onlyValidAndReached();
        notAnalysed();
        outOfReach();
        changesNothing();
        Check.end();
    }

    /** "F (function starts): the entries", from one to eight, valid or not. */
    private static void entries() {
        Check.functionsAre("an entry", Check.analysed(0, 2, 0, 0, 0), 2);
        Check.functionsAre("a bad entry", Check.analysed(0, 1, 0, 99, 0), 1);
        int[] eight = {0, 9, 18, 27, 36, 45, 54, 63};
        Check.functionsAre("eight entries", Check.analysedFrom(eight, 3, new int[64]), eight);
    }

    /** "Plus t for every valid `CALL t` in S." */
    private static void calls() {
        Check.functionsAre("a call", Check.analysed(0, 0, 11, 3, 0, 12), 0, 3);
        Check.functionsAre("a call of a bad one", Check.analysed(0, 0, 11, 3, 0, 99), 0, 3);
        Check.functionsAre("a call of the call", Check.analysed(0, 1, 0, 11, 1, 0), 1);
        Check.functionsAre("a call of 0", Check.analysed(0, 1, 0, 11, 0, 0), 0, 1);
        Check.functionsAre("calls in called ones", Check.analysed(0, 0, 11, 3, 0, 11, 6, 12, 12), 0, 3, 6);
    }

    /** "With t<SIZE": the last address is a function start, SIZE and all above it are not. */
    private static void belowSize() {
        for (int t = 0; t <= 255; t++) {
            int[] want = t == 0 || t >= 4 ? new int[] {0} : new int[] {0, t};
            Check.functionsAre("a call of " + t, Check.analysed(3, 0, 11, t, 0, 0), want);
        }
    }

    private static void fullImage() {
        Check.functionsAre("full, a call of the last", Check.analysed(3, 0, Check.full(11, 63)), 0, 63);
        Check.functionsAre("full, a call of the size", Check.analysed(3, 0, Check.full(11, 64)), 0);
        Check.functionsAre("full, a call of 255", Check.analysed(3, 0, Check.full(11, 255)), 0);
    }

    private static void onlyCalls() {
        Check.functionsAre("JMP", Check.analysed(0, 0, 8, 3, 0, 0), 0);
        Check.functionsAre("BEQI", Check.analysed(0, 0, 9, 0, 0, 5, 0, 0), 0);
        Check.functionsAre("BGEI", Check.analysed(0, 0, 10, 0, 0, 5, 0, 0), 0);
        Check.functionsAre("LEA", Check.analysed(0, 0, 3, 0, 4, 0, 0), 0);
        Check.functionsAre("a table", Check.analysed(0, 4, 10, 0, 1, 0, 13, 0, 7, 8, 0), 4);
    }

    private static void onlyValidAndReached() {
        Check.functionsAre("a call that is not reached", Check.analysed(0, 0, 0, 11, 4, 0, 0), 0);
        Check.functionsAre("a call that is cut", Check.analysed(0, 0, 1, 11), 0);
        Check.functionsAre("full, a call that is cut", Check.analysed(0, 0, Check.full(11)), 0);
        // The byte that would complete it was there before reset.
        ReasmDisasm x = Check.load(1, 11, 1);
        x.reset();
        Check.put(x, 1, 11);
        Check.enter(x, 0);
        Check.analyse(x, 0);
        Check.functionsAre("a call that is cut after reset", x, 0);
    }

    /** "It answers false if not analysed." */
    private static void notAnalysed() {
        ReasmDisasm x = Check.load(0, 0);
        Check.due("no entries", x.isFunctionStart(1), false);
        Check.enter(x, 1);
        Check.due("not analysed", x.isFunctionStart(1), false);
        Check.analyse(x, 0);
        Check.due("analysed", x.isFunctionStart(1), true);
        Check.put(x, 0);
        Check.due("analysis cleared", x.isFunctionStart(1), false);
    }

    /** "Or if q<0 or q>=SIZE", also where an earlier image had a function. */
    private static void outOfReach() {
        ReasmDisasm x = Check.analysed(3, 1, 0, 0);
        for (int q : Check.outside(0, 2)) {
            Check.due("isFunctionStart(" + q + ")", x.isFunctionStart(q), false);
        }
        x.reset();
        Check.put(x, 0);
        Check.enter(x, 0);
        Check.analyse(x, 0);
        Check.due("isFunctionStart(1) of a shorter image", x.isFunctionStart(1), false);
        ReasmDisasm full = Check.analysed(3, 63, Check.full(0));
        Check.due("isFunctionStart(63)", full.isFunctionStart(63), true);
        Check.due("isFunctionStart(64)", full.isFunctionStart(64), false);
    }

    /** "It changes nothing." */
    private static void changesNothing() {
        ReasmDisasm x = Check.analysed(3, 1, 0, 0);
        Check.run(x, ReasmDisasm.MEM_OUTPUT, 0, 9);
        String before = Check.state(x);
        for (int q = -1; q <= 3; q++) {
            x.isFunctionStart(q);
        }
        Check.same("after isFunctionStart", Check.state(x), before);
    }
}
