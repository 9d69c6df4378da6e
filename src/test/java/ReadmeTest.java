/** The example of README.md answers what is written there. */
public final class ReadmeTest {
    public static void main(String[] args) {
        ReasmDisasm x = Check.load(11, 4, 0, 77, 3, 0, 3, 7, 0, 12);
        Check.enter(x, 0);
        Check.analyse(x, 2);
        Check.due("byteClass(3)", x.byteClass(3), ReasmDisasm.CLASS_NONE);
        Check.due("isFunctionStart(4)", x.isFunctionStart(4), true);
        Check.due("isSymbolic(1)", x.isSymbolic(1), true);
        Check.due("count(K_FUNCS)", x.count(ReasmDisasm.K_FUNCS), 2);
        Check.due("mapAddr(4)", x.mapAddr(4), 6);
        Check.due("outSize()", x.outSize(), 12);
        Check.due("outByte(1)", x.outByte(1), 6);
        Check.run(x, ReasmDisasm.MEM_OUTPUT, 0, 100);
        Check.due("runInfo(INFO_STATUS)", x.runInfo(ReasmDisasm.INFO_STATUS), ReasmDisasm.RUN_HALTED);
        Check.due("runReg(0)", x.runReg(0), 3);
        Check.due("runOut(0)", x.runOut(0), 3);
        Check.end();
    }
}
