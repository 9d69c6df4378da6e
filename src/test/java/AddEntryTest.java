/** Promise 4. */
public final class AddEntryTest {
    public static void main(String[] args) {
        takesAddressesInTheImage();
        refusesWrongAddresses();
        refusesOnEmptyImage();
        refusesTheNinth();
        clearsAnalysisOnly();
        Check.end();
    }

    private static void takesAddressesInTheImage() {
        ReasmDisasm x = Check.load(0, 0, 0, 0);
        Check.due("addEntry(3)", x.addEntry(3), true);
        Check.due("entries", x.count(ReasmDisasm.K_ENTRIES), 1);
        Check.due("addEntry(0)", x.addEntry(0), true);
        Check.due("entries", x.count(ReasmDisasm.K_ENTRIES), 2);
        Check.due("addEntry(4)", x.addEntry(4), false);
        Check.put(x, 0);
        Check.due("addEntry(4) once the image reaches it", x.addEntry(4), true);
        Check.due("analyse(1)", x.analyse(1), true);
        Check.functionsAre("entries", x, 0, 3, 4);
        Check.classesAre("entries", x, 1, 0, 0, 1, 1);
    }

    private static void refusesWrongAddresses() {
        int[] wrong = {-1, 5, 6, 64, 255, Integer.MIN_VALUE, Integer.MAX_VALUE, 0, 2};
        ReasmDisasm x = Check.load(1, 1, 7, 0, 0);
        Check.due("addEntry(2)", x.addEntry(2), true);
        Check.due("addEntry(0)", x.addEntry(0), true);
        Check.due("analyse(3)", x.analyse(3), true);
        Check.due("run", x.run(1, 0, 100), true);
        String before = Check.state(x);
        for (int a : wrong) {
            Check.due("addEntry(" + a + ")", x.addEntry(a), false);
            Check.same("refused addEntry(" + a + ")", Check.state(x), before);
        }
    }

    private static void refusesOnEmptyImage() {
        ReasmDisasm x = new ReasmDisasm(64);
        for (int a = -1; a <= 1; a++) {
            Check.due("addEntry on an empty image", x.addEntry(a), false);
        }
        Check.due("entries", x.count(ReasmDisasm.K_ENTRIES), 0);
    }

    private static void refusesTheNinth() {
        ReasmDisasm x = Check.load(0, 0, 0, 0, 0, 0, 0, 0, 0, 0);
        for (int a = 9; a >= 2; a--) {
            Check.due("addEntry(" + a + ")", x.addEntry(a), true);
        }
        Check.due("analyse(1)", x.analyse(1), true);
        String before = Check.state(x);
        Check.due("the ninth", x.addEntry(1), false);
        Check.due("the ninth again", x.addEntry(0), false);
        Check.due("a repeated one", x.addEntry(9), false);
        Check.same("refused ninth", Check.state(x), before);
        Check.due("entries", x.count(ReasmDisasm.K_ENTRIES), 8);
        Check.functionsAre("eight entries", x, 2, 3, 4, 5, 6, 7, 8, 9);
    }

    private static void clearsAnalysisOnly() {
        ReasmDisasm x = Check.analysed(2, 0, 7, 0, 0, 0);
        Check.due("run", x.run(1, 0, 100), true);
        String run = Check.runState(x);
        Check.due("addEntry(3)", x.addEntry(3), true);
        Check.same("run state after addEntry", Check.runState(x), run);
        Check.due("outSize() after addEntry", x.outSize(), -1);
        Check.due("isFunctionStart(0) after addEntry", x.isFunctionStart(0), false);
        Check.due("run on the output after addEntry", x.run(1, 0, 100), false);
        Check.imageIs("image after addEntry", x, 7, 0, 0, 0);
    }
}
