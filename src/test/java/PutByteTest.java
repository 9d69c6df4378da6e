/** Promise 3. */
public final class PutByteTest {
    public static void main(String[] args) {
        appendsInOrder();
        refusesWrongBytes();
        refusesWhenFull();
        clearsAnalysisOnly();
        Check.end();
    }

    private static void appendsInOrder() {
        ReasmDisasm x = new ReasmDisasm(64);
        int[] bytes = {0, 255, 1, 254, 128, 127, 64, 15};
        for (int i = 0; i < bytes.length; i++) {
            Check.due("putByte(" + bytes[i] + ")", x.putByte(bytes[i]), true);
            Check.due("size", x.count(ReasmDisasm.K_SIZE), i + 1);
        }
        Check.imageIs("after appending", x, bytes);
    }

    private static void refusesWrongBytes() {
        int[] wrong = {-1, 256, 257, -256, 512, Integer.MIN_VALUE, Integer.MAX_VALUE};
        ReasmDisasm x = Check.analysed(1, 2, 1, 1, 7, 0, 0);
        Check.due("run", x.run(1, 0, 100), true);
        String before = Check.state(x);
        for (int b : wrong) {
            Check.due("putByte(" + b + ")", x.putByte(b), false);
            Check.same("refused putByte(" + b + ")", Check.state(x), before);
        }
        Check.imageIs("after refusals", x, 1, 1, 7, 0, 0);
    }

    private static void refusesWhenFull() {
        ReasmDisasm x = new ReasmDisasm(8);
        Check.put(x, 1, 2, 3, 4, 5, 6, 7, 8);
        Check.due("addEntry(0)", x.addEntry(0), true);
        Check.due("analyse(0)", x.analyse(0), true);
        String before = Check.state(x);
        Check.due("putByte at capacity", x.putByte(9), false);
        Check.due("wrong putByte at capacity", x.putByte(-9), false);
        Check.same("refused at capacity", Check.state(x), before);
        Check.imageIs("at capacity", x, 1, 2, 3, 4, 5, 6, 7, 8);
    }

    private static void clearsAnalysisOnly() {
        ReasmDisasm x = Check.analysed(1, 1, 1, 7, 0, 0);
        Check.due("run", x.run(0, 0, 100), true);
        String run = Check.runState(x);
        Check.due("putByte(200)", x.putByte(200), true);
        Check.same("run state after putByte", Check.runState(x), run);
        Check.due("outSize() after putByte", x.outSize(), -1);
        Check.due("byteClass(0) after putByte", x.byteClass(0), -1);
        Check.due("count(K_FUNCS) after putByte", x.count(ReasmDisasm.K_FUNCS), -1);
        Check.due("entries after putByte", x.count(ReasmDisasm.K_ENTRIES), 1);
        Check.due("analyse(0)", x.analyse(0), true);
        Check.functionsAre("entries are kept", x, 1);
        Check.outIs("image is kept", x, 1, 7, 0, 0, 200);
    }
}
