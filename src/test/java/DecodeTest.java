import java.util.Arrays;

/** "The instruction set": what decodes validly, in the analysis and in both memories of a run. */
public final class DecodeTest {
    // Each instruction with the least bytes that its letters allow; r and s stand for registers, k, t and a do not.
    private static final String[] FORMS = {
        "", "", "rk", "ra", "rs", "rk", "ras", "r", "t", "rkt", "rkt", "t", "", "ra", "r",
    };

    public static void main(String[] args) {
        opcodes();
        lengths();
        lengthsInAFullImage();
        lengthsOfTheOutput();
        registers();
        otherOperands();
        paddingAsOperand();
        Check.end();
    }

    private static int[] bytesOf(int op) {
        int[] bytes = new int[1 + FORMS[op].length()];
        bytes[0] = op;
        return bytes;
    }

    /** Valid in the analysis is START, and a run does not stop at once unless the table tells a fault. */
    private static void valid(String what, ReasmDisasm x, int p, boolean want) {
        Check.due(what + ": class", x.byteClass(p), want ? ReasmDisasm.CLASS_START : ReasmDisasm.CLASS_BAD);
        boolean ret = want && x.outByte(x.mapAddr(p)) == ReasmDisasm.OP_RET;
        for (int which = 0; which <= 1; which++) {
            Check.run(x, which, p, 1);
            Check.due(what + ": steps in memory " + which, x.runInfo(ReasmDisasm.INFO_STEPS), want && !ret ? 1 : 0);
        }
    }

    /** "`mem[p]` is 0..14." */
    private static void opcodes() {
        for (int op = 0; op <= 255; op++) {
            valid("opcode " + op, Check.analysed(1, 0, op, 0, 0, 0, 0, 0, 0), 0, op <= 14);
        }
    }

    /** "`p+LEN <= n`": whole at the end of the image, or cut there. */
    private static void lengths() {
        for (int op = 0; op < FORMS.length; op++) {
            int[] bytes = bytesOf(op);
            ReasmDisasm whole = Check.analysed(1, 0, bytes);
            valid("op " + op, whole, 0, true);
            Check.due("operands of op " + op, whole.count(ReasmDisasm.CLASS_OPERAND), bytes.length - 1);
            for (int length = 1; length < bytes.length; length++) {
                ReasmDisasm cut = Check.analysed(1, 0, Arrays.copyOf(bytes, length));
                valid("op " + op + " cut to " + length, cut, 0, false);
                Check.due("operands of a cut op", cut.count(ReasmDisasm.CLASS_OPERAND), 0);
                // The bytes that would complete it were there before reset.
                ReasmDisasm again = Check.load(bytes);
                again.reset();
                Check.put(again, Arrays.copyOf(bytes, length));
                Check.enter(again, 0);
                Check.analyse(again, 1);
                valid("op " + op + " cut to " + length + " after reset", again, 0, false);
            }
        }
    }

    private static void lengthsInAFullImage() {
        for (int op = 0; op < FORMS.length; op++) {
            int[] bytes = bytesOf(op);
            for (int length = 1; length <= bytes.length; length++) {
                int[] image = Check.full(Arrays.copyOf(bytes, length));
                ReasmDisasm x = Check.analysed(0, 64 - length, image);
                valid("op " + op + " in the last " + length, x, 64 - length, length == bytes.length);
            }
        }
    }

    /** The bytes stand at 2 in the image, and in the output at 8, past all that the image has. */
    private static ReasmDisasm moved(int[] bytes, int length) {
        int[] image = new int[2 + length];
        System.arraycopy(bytes, 0, image, 2, length);
        ReasmDisasm x = Check.analysedFrom(new int[] {1, 2}, 3, image);
        Check.due("moved", x.mapAddr(2), 8);
        return x;
    }

    /** In the output n is OUTSIZE. */
    private static void lengthsOfTheOutput() {
        for (int op = 0; op < FORMS.length; op++) {
            int[] bytes = bytesOf(op);
            for (int length = 1; length <= bytes.length; length++) {
                String what = "op " + op + " in the last " + length + " of the output";
                valid(what, moved(bytes, length), 2, length == bytes.length);
            }
        }
    }

    /** "Every byte marked r or s is 0..3." */
    private static void registers() {
        for (int op = 0; op < FORMS.length; op++) {
            for (int i = 0; i < FORMS[op].length(); i++) {
                if (FORMS[op].charAt(i) == 'r' || FORMS[op].charAt(i) == 's') {
                    for (int b = 0; b <= 255; b++) {
                        int[] bytes = bytesOf(op);
                        bytes[1 + i] = b;
                        valid("op " + op + " with register " + b, moved(bytes, bytes.length), 2, b <= 3);
                    }
                }
            }
        }
    }

    /** Bytes marked k, t or a may be any. */
    private static void otherOperands() {
        for (int op = 0; op < FORMS.length; op++) {
            for (int i = 0; i < FORMS[op].length(); i++) {
                if (FORMS[op].charAt(i) != 'r' && FORMS[op].charAt(i) != 's') {
                    for (int b = 0; b <= 255; b++) {
                        int[] bytes = bytesOf(op);
                        bytes[1 + i] = b;
                        Check.due("op " + op + " with operand " + b, Check.analysed(1, 0, bytes).byteClass(0),
                            ReasmDisasm.CLASS_START);
                    }
                }
            }
        }
    }

    /** "The instruction at pc ... in this memory": padding inside an instruction makes it another one. */
    private static void paddingAsOperand() {
        ReasmDisasm x = Check.analysedFrom(new int[] {0, 1}, 1, 7, 4);
        Check.due("OUT 4 in the image", x.byteClass(0), ReasmDisasm.CLASS_BAD);
        Check.run(x, ReasmDisasm.MEM_IMAGE, 0, 9);
        Check.ended("OUT 4 in the image", x, ReasmDisasm.RUN_FAULT, 0, 0);
        Check.run(x, ReasmDisasm.MEM_OUTPUT, 0, 9);
        Check.ended("OUT 1 in the output", x, ReasmDisasm.RUN_FAULT, 1, 2);
        Check.valuesAre("OUT 1 in the output", x, 0);
        // The constant moves away, and the padding takes its place.
        ReasmDisasm y = Check.analysedFrom(new int[] {0, 2}, 3, 2, 3, 0);
        Check.run(y, ReasmDisasm.MEM_OUTPUT, 0, 9);
        Check.registersAre("MOVI R3 1 in the output", y, 0, 0, 0, 1);
        Check.ended("MOVI R3 1 in the output", y, ReasmDisasm.RUN_HALTED, 4, 5);
    }
}
