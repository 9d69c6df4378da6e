/** Promise 9. */
public final class FunctionStartTest {
    public static void main(String[] args) {
        entriesAndCalls();
        fullImage();
        onlyCalls();
        outOfReach();
        Check.end();
    }

    private static void entriesAndCalls() {
        Check.functionsAre("an entry", Check.analysed(0, 2, 0, 0, 0), 2);
        Check.functionsAre("a bad entry", Check.analysed(0, 1, 0, 99, 0), 1);
        Check.functionsAre("a call", Check.analysed(0, 0, 11, 3, 0, 12), 0, 3);
        Check.functionsAre("a call of a bad one", Check.analysed(0, 0, 11, 3, 0, 99), 0, 3);
        Check.functionsAre("a call of the call", Check.analysed(0, 1, 0, 11, 1, 0), 1);
        Check.functionsAre("a call of 0", Check.analysed(0, 1, 0, 11, 0, 0), 0, 1);
        Check.functionsAre("a call of the last", Check.analysed(0, 0, 11, 2, 0), 0, 2);
        Check.functionsAre("a call of the size", Check.analysed(0, 0, 11, 3, 0), 0);
        Check.functionsAre("a call of 255", Check.analysed(0, 0, 11, 255, 0), 0);
        Check.functionsAre("calls in called ones", Check.analysed(0, 0, 11, 3, 0, 11, 6, 12, 12), 0, 3, 6);
    }

    private static void fullImage() {
        Check.functionsAre("full, a call of the last", Check.analysed(3, 0, Check.full(11, 63)), 0, 63);
        Check.functionsAre("full, a call of the size", Check.analysed(3, 0, Check.full(11, 64)), 0);
        Check.functionsAre("full, a call of 255", Check.analysed(3, 0, Check.full(11, 255)), 0);
    }

    private static void onlyCalls() {
        Check.functionsAre("JMP", Check.analysed(0, 0, 8, 3, 0, 0), 0);
        Check.functionsAre("BEQI", Check.analysed(0, 0, 9, 0, 0, 5, 0, 0), 0);
        Check.functionsAre("BGEI", Check.analysed(0, 0, 10, 0, 0, 5, 0, 0), 0);
        Check.functionsAre("LEA", Check.analysed(0, 0, 3, 0, 4, 0, 0), 0);
        Check.functionsAre("a table", Check.analysed(0, 4, 10, 0, 1, 0, 13, 0, 7, 8, 0), 4);
        Check.functionsAre("a call that is not reached", Check.analysed(0, 0, 0, 11, 4, 0, 0), 0);
        Check.functionsAre("a call that is cut", Check.analysed(0, 0, 1, 11), 0);
    }

    private static void outOfReach() {
        ReasmDisasm x = Check.load(0, 0);
        Check.due("addEntry(1)", x.addEntry(1), true);
        Check.due("not analysed", x.isFunctionStart(1), false);
        Check.due("analyse(0)", x.analyse(0), true);
        String before = Check.state(x);
        Check.due("isFunctionStart(1)", x.isFunctionStart(1), true);
        int[] wrong = {-1, 2, 64, Integer.MIN_VALUE, Integer.MAX_VALUE};
        for (int q : wrong) {
            Check.due("isFunctionStart(" + q + ")", x.isFunctionStart(q), false);
        }
        Check.same("after isFunctionStart", Check.state(x), before);
        Check.put(x, 0);
        Check.due("analysis cleared", x.isFunctionStart(1), false);
    }
}
