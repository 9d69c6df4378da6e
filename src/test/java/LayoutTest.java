/** Promises 10, 11 and 12, and the layout of "The analysis". Each method holds to the sentence above it. */
public final class LayoutTest {
    public static void main(String[] args) {
        padsBeforeFunctions();
        mapEdges();
        noPadBeforeZero();
        padsAtTheEnds();
        padsInsideAnInstruction();
        symbolsMove();
        symbolEdges();
        othersStay();
        greatestOutput();
        notAnalysed();
        wrongPositionsOfTheOutput();
        wrongAddresses();
        shorterOutput();
        changesNothing();
        Check.end();
    }

    private static void mapIs(String what, ReasmDisasm x, int... map) {
        for (int a = 0; a < map.length; a++) {
            Check.due(what + ": mapAddr(" + a + ")", x.mapAddr(a), map[a]);
        }
        Check.due(what + ": mapAddr of the size", x.mapAddr(map.length), -1);
    }

    /** "Every other position holds 1 (NOP); these are the PAD positions just before `M(f)` for each f>0 in F." */
    private static void padsBeforeFunctions() {
        ReasmDisasm x = Check.analysed(0, 0, 11, 4, 11, 5, 12, 12, 200);
        Check.outIs("pad 0", x, 11, 4, 11, 5, 12, 12, 200);
        mapIs("pad 0", x, 0, 1, 2, 3, 4, 5, 6);
        Check.analyse(x, 1);
        Check.outIs("pad 1", x, 11, 5, 11, 7, 1, 12, 1, 12, 200);
        mapIs("pad 1", x, 0, 1, 2, 3, 5, 7, 8);
        Check.analyse(x, 2);
        Check.outIs("pad 2", x, 11, 6, 11, 9, 1, 1, 12, 1, 1, 12, 200);
        mapIs("pad 2", x, 0, 1, 2, 3, 6, 9, 10);
        Check.analyse(x, 3);
        Check.outIs("pad 3", x, 11, 7, 11, 11, 1, 1, 1, 12, 1, 1, 1, 12, 200);
        mapIs("pad 3", x, 0, 1, 2, 3, 7, 11, 12);
    }

    /** "`M(a) = a + PAD*(number of f in F with 0<f<=a)`": one below f, at f, and one above. */
    private static void mapEdges() {
        for (int f = 1; f < 64; f++) {
            for (int pad = 0; pad <= 3; pad++) {
                ReasmDisasm x = Check.analysed(pad, f, new int[64]);
                for (int a = 0; a < 64; a++) {
                    Check.due("f " + f + ", pad " + pad + ": mapAddr(" + a + ")", x.mapAddr(a), a < f ? a : a + pad);
                }
                Check.due("outSize()", x.outSize(), 64 + pad);
            }
        }
        int[] eight = {8, 1, 7, 2, 6, 3, 5, 4};
        ReasmDisasm x = Check.analysedFrom(eight, 3, new int[10]);
        mapIs("eight in a row", x, 0, 4, 8, 12, 16, 20, 24, 28, 32, 33);
        Check.due("eight in a row: outSize()", x.outSize(), 34);
    }

    /** "0<f": nothing is padded before address 0, an entry or a called one. */
    private static void noPadBeforeZero() {
        for (int pad = 0; pad <= 3; pad++) {
            Check.outIs("entry 0 alone", Check.analysed(pad, 0, 0, 5), 0, 5);
            mapIs("entry 0 alone", Check.analysed(pad, 0, 0, 5), 0, 1);
        }
        Check.outIs("a call of 0", Check.analysed(2, 1, 0, 11, 0, 0), 0, 1, 1, 11, 0, 0);
    }

    /** The first and the last address that are padded before. */
    private static void padsAtTheEnds() {
        Check.outIs("entry 1", Check.analysed(3, 1, 5, 0), 5, 1, 1, 1, 0);
        Check.outIs("entry at the last", Check.analysed(3, 2, 5, 5, 0), 5, 5, 1, 1, 1, 0);
        ReasmDisasm full = Check.analysed(3, 63, Check.full(0));
        Check.due("full, entry 63: outSize()", full.outSize(), 67);
        Check.due("full, entry 63: mapAddr(62)", full.mapAddr(62), 62);
        Check.due("full, entry 63: mapAddr(63)", full.mapAddr(63), 66);
        Check.due("full, entry 63: outByte(66)", full.outByte(66), 0);
    }

    private static void padsInsideAnInstruction() {
        ReasmDisasm x = Check.analysedFrom(new int[] {0, 2}, 2, 2, 0, 1, 0);
        Check.outIs("a function start in an operand", x, 2, 0, 1, 1, 1, 0);
        mapIs("a function start in an operand", x, 0, 1, 4, 5);
    }

    /** "`out[M(q)]` is `M(image[q])` if q is symbolic." */
    private static void symbolsMove() {
        // LEA 8, MOVI 8 and JMP 8 before a function at 8: only the addresses in slots move.
        ReasmDisasm x = Check.analysedFrom(new int[] {0, 8}, 2, 3, 0, 8, 2, 1, 8, 8, 8, 0, 8, 9);
        Check.outIs("symbols", x, 3, 0, 10, 2, 1, 8, 8, 10, 1, 1, 0, 8, 9);
        // Of the table's values 10 moves, 11 is SIZE and stays, and 3 lies before the function.
        ReasmDisasm y = Check.analysed(1, 4, 10, 1, 3, 2, 13, 1, 7, 10, 11, 3, 0);
        Check.outIs("table", y, 10, 1, 3, 2, 1, 13, 1, 8, 11, 11, 3, 0);
    }

    /** Targets just below a function, at it, at the last address, at SIZE and at 255. */
    private static void symbolEdges() {
        int[] targets = {0, 3, 4, 5, 6, 255};
        int[] moved = {0, 3, 7, 8, 6, 255};
        for (int i = 0; i < targets.length; i++) {
            ReasmDisasm x = Check.analysed(3, 4, 0, 0, 0, 0, 8, targets[i]);
            Check.outIs("JMP to " + targets[i], x, 0, 0, 0, 0, 1, 1, 1, 8, moved[i]);
        }
    }

    /** "And `image[q]` if not", for every byte. */
    private static void othersStay() {
        for (int b = 0; b <= 255; b++) {
            ReasmDisasm x = Check.analysed(1, 1, b, 0, b);
            Check.outIs("free bytes " + b, x, b, 1, 0, b);
        }
    }

    /**
     * "OUTSIZE is never more than 253": no image reaches that. Each target but 11 takes a CALL byte and a byte of its
     * own, so 32 calls are the most, and with 8 entries 40 functions: 64 + 3 * 40.
     */
    private static void greatestOutput() {
        int[] image = greatest();
        ReasmDisasm x = Check.analysedFrom(new int[] {1, 2, 4, 6, 8, 10, 12, 14}, 3, image);
        Check.due("function starts", x.count(ReasmDisasm.K_FUNCS), 40);
        Check.due("0 is none of them", x.isFunctionStart(0), false);
        Check.due("outSize()", x.outSize(), 184);
        Check.due("mapAddr(63)", x.mapAddr(63), 183);
        Check.due("outByte(183)", x.outByte(183), x.mapAddr(image[63]));
        Check.due("outByte(184)", x.outByte(184), -1);
        int at = 0;
        for (int q = 0; q < 64; q++) {
            for (int i = 0; q > 0 && x.isFunctionStart(q) && i < 3; i++) {
                Check.due("padding at " + at, x.outByte(at), 1);
                at++;
            }
            Check.due("mapAddr(" + q + ")", x.mapAddr(q), at);
            Check.due("outByte(" + at + ")", x.outByte(at), x.isSymbolic(q) ? x.mapAddr(image[q]) : image[q]);
            at++;
        }
        Check.due("the end of the output", at, 184);
    }

    /** A free byte, CALL 11 over CALL 63, then calls of 30 other addresses that are no entries. */
    private static int[] greatest() {
        int[] image = new int[64];
        image[0] = 200;
        image[1] = 11;
        image[2] = 11;
        image[3] = 63;
        int target = 62;
        for (int p = 4; p < 64; p += 2) {
            image[p] = 11;
            image[p + 1] = target;
            target--;
        }
        return image;
    }

    /** "Or -1 if not analysed", of all three. */
    private static void notAnalysed() {
        ReasmDisasm x = new ReasmDisasm(64);
        layoutIs("new", x, -1, -1, -1);
        Check.put(x, 0, 0);
        layoutIs("no entries", x, -1, -1, -1);
        Check.enter(x, 1);
        layoutIs("not analysed", x, -1, -1, -1);
        Check.analyse(x, 1);
        layoutIs("analysed", x, 3, 0, 0);
        Check.put(x, 0);
        layoutIs("after putByte", x, -1, -1, -1);
        Check.analyse(x, 1);
        Check.enter(x, 0);
        layoutIs("after addEntry", x, -1, -1, -1);
        Check.analyse(x, 1);
        x.reset();
        layoutIs("after reset", x, -1, -1, -1);
    }

    private static void layoutIs(String what, ReasmDisasm x, int outSize, int firstByte, int firstAddress) {
        Check.due(what + ": outSize()", x.outSize(), outSize);
        Check.due(what + ": outByte(0)", x.outByte(0), firstByte);
        Check.due(what + ": mapAddr(0)", x.mapAddr(0), firstAddress);
    }

    /** "It answers -1 if not analysed, or if i<0 or i>=OUTSIZE." */
    private static void wrongPositionsOfTheOutput() {
        ReasmDisasm x = Check.analysed(3, 1, 0, 0);
        Check.due("outByte(4)", x.outByte(4), 0);
        for (int i : Check.outside(0, 5)) {
            Check.due("outByte(" + i + ")", x.outByte(i), -1);
        }
        for (int i = 5; i <= 300; i++) {
            Check.due("outByte(" + i + ")", x.outByte(i), -1);
        }
    }

    /** "It answers -1 if not analysed, or if a<0 or a>=SIZE", though the output is longer. */
    private static void wrongAddresses() {
        ReasmDisasm x = Check.analysed(3, 1, 0, 0);
        Check.due("mapAddr(1)", x.mapAddr(1), 4);
        for (int a : Check.outside(0, 2)) {
            Check.due("mapAddr(" + a + ")", x.mapAddr(a), -1);
        }
        for (int a = 2; a <= 300; a++) {
            Check.due("mapAddr(" + a + ")", x.mapAddr(a), -1);
        }
        Check.due("full: mapAddr(64)", Check.analysed(3, 0, Check.full()).mapAddr(64), -1);
    }

    /** What an earlier, longer layout held is gone. */
    private static void shorterOutput() {
        ReasmDisasm x = Check.analysedFrom(new int[] {1, 2, 4, 6, 8, 10, 12, 14}, 3, greatest());
        Check.analyse(x, 0);
        Check.outIs("pad 0 after pad 3", x, greatest());
        for (int i = 64; i <= 184; i++) {
            Check.due("outByte(" + i + ") after pad 0", x.outByte(i), -1);
        }
        x.reset();
        Check.put(x, 0, 0);
        Check.enter(x, 1);
        Check.analyse(x, 1);
        Check.outIs("another image", x, 0, 1, 0);
        mapIs("another image", x, 0, 2);
        Check.due("outByte(3) of another image", x.outByte(3), -1);
    }

    /** "It changes nothing", of all three. */
    private static void changesNothing() {
        ReasmDisasm x = Check.analysed(3, 1, 0, 0);
        Check.run(x, ReasmDisasm.MEM_OUTPUT, 0, 9);
        String before = Check.state(x);
        for (int i = -1; i <= 6; i++) {
            x.outSize();
            x.outByte(i);
            x.mapAddr(i);
        }
        Check.same("after asking", Check.state(x), before);
    }
}
