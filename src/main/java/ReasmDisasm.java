/** Disassembles the image of a small byte machine, lays it out again with padding, and runs either. */
public final class ReasmDisasm {
    public static final int OP_HALT = 0;
    public static final int OP_NOP = 1;
    public static final int OP_MOVI = 2;
    public static final int OP_LEA = 3;
    public static final int OP_ADD = 4;
    public static final int OP_ADDI = 5;
    public static final int OP_LDX = 6;
    public static final int OP_OUT = 7;
    public static final int OP_JMP = 8;
    public static final int OP_BEQI = 9;
    public static final int OP_BGEI = 10;
    public static final int OP_CALL = 11;
    public static final int OP_RET = 12;
    public static final int OP_JMPT = 13;
    public static final int OP_JMPR = 14;

    public static final int CLASS_NONE = 0;
    public static final int CLASS_START = 1;
    public static final int CLASS_OPERAND = 2;
    public static final int CLASS_TABLE = 3;
    public static final int CLASS_BAD = 4;

    public static final int K_FUNCS = 5;
    public static final int K_SYMBOLS = 6;
    public static final int K_TABLES = 7;
    public static final int K_UNRESOLVED = 8;
    public static final int K_SIZE = 9;
    public static final int K_ENTRIES = 10;

    public static final int MEM_IMAGE = 0;
    public static final int MEM_OUTPUT = 1;

    public static final int RUN_NONE = 0;
    public static final int RUN_HALTED = 1;
    public static final int RUN_FAULT = 2;
    public static final int RUN_STEPS = 3;

    public static final int INFO_STATUS = 0;
    public static final int INFO_STEPS = 1;
    public static final int INFO_PC = 2;
    public static final int INFO_OUTCOUNT = 3;
    public static final int INFO_DEPTH = 4;

    private static final int MIN_CAPACITY = 8;
    private static final int MAX_CAPACITY = 64;
    private static final int MAX_BYTE = 255;
    private static final int MAX_ENTRIES = 8;
    private static final int MAX_PAD = 3;
    // Every address but 0 may be a function start: 64 + 3 * 63.
    private static final int MAX_OUTPUT = 253;
    private static final int GUARD_LENGTH = 4;
    private static final int MAX_TABLE = 16;
    private static final int REGISTERS = 4;
    private static final int MAX_DEPTH = 8;
    private static final int MAX_VALUES = 16;
    private static final int MAX_STEPS = 2000;

    private final int capacity;
    private final int[] image = new int[MAX_CAPACITY];
    private int size;
    private final boolean[] entry = new boolean[MAX_CAPACITY];
    private int entryCount;

    private boolean analysed;
    private final boolean[] reached = new boolean[MAX_CAPACITY];
    private final int[] classes = new int[MAX_CAPACITY];
    private final boolean[] symbolic = new boolean[MAX_CAPACITY];
    private final boolean[] functionStart = new boolean[MAX_CAPACITY];
    private final int[] newAddress = new int[MAX_CAPACITY];
    private final int[] output = new int[MAX_OUTPUT];
    private int outputSize;

    private int status;
    private int steps;
    private int pc;
    private final int[] registers = new int[REGISTERS];
    private final int[] stack = new int[MAX_DEPTH];
    private int depth;
    private final int[] values = new int[MAX_VALUES];
    private int valueCount;

    public ReasmDisasm(int capacity) {
        if (capacity < MIN_CAPACITY) {
            this.capacity = MIN_CAPACITY;
        } else if (capacity > MAX_CAPACITY) {
            this.capacity = MAX_CAPACITY;
        } else {
            this.capacity = capacity;
        }
    }

    public void reset() {
        size = 0;
        for (int q = 0; q < MAX_CAPACITY; q++) {
            entry[q] = false;
        }
        entryCount = 0;
        analysed = false;
        clearRun();
    }

    public boolean putByte(int b) {
        if (b < 0 || b > MAX_BYTE || size >= capacity) {
            return false;
        }
        image[size] = b;
        size++;
        analysed = false;
        return true;
    }

    public boolean addEntry(int a) {
        if (!inImage(a) || entry[a] || entryCount >= MAX_ENTRIES) {
            return false;
        }
        entry[a] = true;
        entryCount++;
        analysed = false;
        return true;
    }

    public boolean analyse(int pad) {
        if (pad < 0 || pad > MAX_PAD || size == 0 || entryCount == 0) {
            return false;
        }
        findReached();
        classify();
        markSymbols();
        markFunctionStarts();
        layOut(pad);
        analysed = true;
        return true;
    }

    public int byteClass(int q) {
        return analysed && inImage(q) ? classes[q] : -1;
    }

    public int count(int k) {
        if (k == K_SIZE) {
            return size;
        }
        if (k == K_ENTRIES) {
            return entryCount;
        }
        if (!analysed) {
            return -1;
        }
        switch (k) {
            case CLASS_NONE:
            case CLASS_START:
            case CLASS_OPERAND:
            case CLASS_TABLE:
            case CLASS_BAD:
                return countClass(k);
            case K_FUNCS:
                return countMarks(functionStart);
            case K_SYMBOLS:
                return countMarks(symbolic);
            case K_TABLES:
                return countTables();
            case K_UNRESOLVED:
                return countUnresolved();
            default:
                return -1;
        }
    }

    public boolean isSymbolic(int q) {
        return analysed && inImage(q) && symbolic[q];
    }

    public boolean isFunctionStart(int q) {
        return analysed && inImage(q) && functionStart[q];
    }

    public int outSize() {
        return analysed ? outputSize : -1;
    }

    public int outByte(int i) {
        return analysed && i >= 0 && i < outputSize ? output[i] : -1;
    }

    public int mapAddr(int a) {
        return analysed && inImage(a) ? newAddress[a] : -1;
    }

    public boolean run(int which, int start, int maxSteps) {
        if (which != MEM_IMAGE && which != MEM_OUTPUT) {
            return false;
        }
        if (maxSteps < 1 || maxSteps > MAX_STEPS || !inImage(start)) {
            return false;
        }
        if (which == MEM_OUTPUT && !analysed) {
            return false;
        }
        clearRun();
        if (which == MEM_IMAGE) {
            pc = start;
            execute(image, size, maxSteps);
        } else {
            pc = newAddress[start];
            execute(output, outputSize, maxSteps);
        }
        return true;
    }

    public int runInfo(int k) {
        switch (k) {
            case INFO_STATUS:
                return status;
            case INFO_STEPS:
                return steps;
            case INFO_PC:
                return pc;
            case INFO_OUTCOUNT:
                return valueCount;
            case INFO_DEPTH:
                return depth;
            default:
                return -1;
        }
    }

    public int runReg(int i) {
        return i >= 0 && i < REGISTERS ? registers[i] : -1;
    }

    public int runOut(int i) {
        return i >= 0 && i < valueCount ? values[i] : -1;
    }

    private boolean inImage(int q) {
        return q >= 0 && q < size;
    }

    // The instruction set.

    private int lengthOf(int op) {
        switch (op) {
            case OP_HALT:
            case OP_NOP:
            case OP_RET:
                return 1;
            case OP_OUT:
            case OP_JMP:
            case OP_CALL:
            case OP_JMPR:
                return 2;
            case OP_MOVI:
            case OP_LEA:
            case OP_ADD:
            case OP_ADDI:
            case OP_JMPT:
                return 3;
            default:
                return 4;
        }
    }

    private boolean firstOperandIsRegister(int op) {
        return lengthOf(op) > 1 && op != OP_JMP && op != OP_CALL;
    }

    /** The offset of the operand that names the register s, or 0 if there is none. */
    private int secondRegisterOffset(int op) {
        switch (op) {
            case OP_ADD:
                return 2;
            case OP_LDX:
                return 3;
            default:
                return 0;
        }
    }

    /** The offset of the address slot, or 0 if there is none. */
    private int slotOffset(int op) {
        switch (op) {
            case OP_JMP:
            case OP_CALL:
                return 1;
            case OP_LEA:
            case OP_LDX:
            case OP_JMPT:
                return 2;
            case OP_BEQI:
            case OP_BGEI:
                return 3;
            default:
                return 0;
        }
    }

    private boolean decodes(int[] mem, int n, int p) {
        if (p < 0 || p >= n) {
            return false;
        }
        int op = mem[p];
        if (op > OP_JMPR || p + lengthOf(op) > n) {
            return false;
        }
        if (firstOperandIsRegister(op) && mem[p + 1] >= REGISTERS) {
            return false;
        }
        int second = secondRegisterOffset(op);
        return second == 0 || mem[p + second] < REGISTERS;
    }

    // The analysis. Once classify has run, the valid instructions reached are the positions of class START.

    private void findReached() {
        for (int q = 0; q < size; q++) {
            reached[q] = entry[q];
        }
        // A round that adds nothing is the last that matters, so as many rounds as addresses are enough.
        for (int round = 0; round < size; round++) {
            for (int p = 0; p < size; p++) {
                if (reached[p] && decodes(image, size, p)) {
                    reachSuccessors(p);
                }
            }
        }
    }

    private void reachSuccessors(int p) {
        int op = image[p];
        int next = p + lengthOf(op);
        switch (op) {
            case OP_HALT:
            case OP_RET:
            case OP_JMPR:
                break;
            case OP_JMP:
                reach(image[p + 1]);
                break;
            case OP_CALL:
                reach(image[p + 1]);
                reach(next);
                break;
            case OP_BEQI:
            case OP_BGEI:
                reach(image[p + 3]);
                reach(next);
                break;
            case OP_JMPT:
                reachTable(p);
                break;
            default:
                reach(next);
                break;
        }
    }

    private void reachTable(int p) {
        int first = image[p + 2];
        int end = first + tableLength(p);
        for (int q = first; q < end; q++) {
            reach(image[q]);
        }
    }

    private void reach(int a) {
        if (a < size) {
            reached[a] = true;
        }
    }

    /** The length of the table of the valid instruction at p, or 0 if that is not a bounded JMPT. */
    private int tableLength(int p) {
        if (image[p] != OP_JMPT || p < GUARD_LENGTH) {
            return 0;
        }
        if (image[p - 4] != OP_BGEI || image[p - 3] != image[p + 1]) {
            return 0;
        }
        int bound = image[p - 2];
        boolean fits = bound <= MAX_TABLE && image[p + 2] + bound <= size;
        return fits ? bound : 0;
    }

    private void classify() {
        for (int q = 0; q < size; q++) {
            if (!reached[q]) {
                classes[q] = CLASS_NONE;
            } else {
                classes[q] = decodes(image, size, q) ? CLASS_START : CLASS_BAD;
            }
        }
        for (int p = 0; p < size; p++) {
            if (classes[p] == CLASS_START) {
                int end = p + lengthOf(image[p]);
                claim(p + 1, end, CLASS_OPERAND);
            }
        }
        // Operands come before tables, so tables wait until all operands are claimed.
        for (int p = 0; p < size; p++) {
            if (classes[p] == CLASS_START) {
                claimTable(p);
            }
        }
    }

    private void claimTable(int p) {
        int length = tableLength(p);
        if (length > 0) {
            int first = image[p + 2];
            claim(first, first + length, CLASS_TABLE);
        }
    }

    private void claim(int first, int end, int newClass) {
        for (int q = first; q < end; q++) {
            if (classes[q] == CLASS_NONE) {
                classes[q] = newClass;
            }
        }
    }

    private void markSymbols() {
        for (int q = 0; q < size; q++) {
            symbolic[q] = false;
        }
        for (int p = 0; p < size; p++) {
            if (classes[p] == CLASS_START) {
                markSymbolsOf(p);
            }
        }
    }

    private void markSymbolsOf(int p) {
        int slot = slotOffset(image[p]);
        if (slot > 0) {
            markIfAddress(p + slot);
        }
        int length = tableLength(p);
        if (length > 0) {
            int first = image[p + 2];
            for (int q = first; q < first + length; q++) {
                markIfAddress(q);
            }
        }
    }

    private void markIfAddress(int q) {
        if (image[q] < size) {
            symbolic[q] = true;
        }
    }

    private void markFunctionStarts() {
        for (int q = 0; q < size; q++) {
            functionStart[q] = entry[q];
        }
        for (int p = 0; p < size; p++) {
            if (classes[p] == CLASS_START && image[p] == OP_CALL && image[p + 1] < size) {
                functionStart[image[p + 1]] = true;
            }
        }
    }

    private void layOut(int pad) {
        int shift = 0;
        for (int q = 0; q < size; q++) {
            if (q > 0 && functionStart[q]) {
                shift += pad;
            }
            newAddress[q] = q + shift;
        }
        outputSize = size + shift;
        for (int i = 0; i < outputSize; i++) {
            output[i] = OP_NOP;
        }
        for (int q = 0; q < size; q++) {
            int b = image[q];
            output[newAddress[q]] = symbolic[q] ? newAddress[b] : b;
        }
    }

    private int countClass(int wanted) {
        int total = 0;
        for (int q = 0; q < size; q++) {
            if (classes[q] == wanted) {
                total++;
            }
        }
        return total;
    }

    private int countMarks(boolean[] marks) {
        int total = 0;
        for (int q = 0; q < size; q++) {
            if (marks[q]) {
                total++;
            }
        }
        return total;
    }

    private int countTables() {
        int total = 0;
        for (int p = 0; p < size; p++) {
            if (classes[p] == CLASS_START && tableLength(p) > 0) {
                total++;
            }
        }
        return total;
    }

    private int countUnresolved() {
        int total = 0;
        for (int p = 0; p < size; p++) {
            if (classes[p] == CLASS_START && isUnresolved(p)) {
                total++;
            }
        }
        return total;
    }

    private boolean isUnresolved(int p) {
        return image[p] == OP_JMPR || (image[p] == OP_JMPT && tableLength(p) == 0);
    }

    // The machine.

    private void clearRun() {
        status = RUN_NONE;
        steps = 0;
        pc = 0;
        for (int i = 0; i < REGISTERS; i++) {
            registers[i] = 0;
        }
        depth = 0;
        valueCount = 0;
    }

    private void execute(int[] mem, int n, int maxSteps) {
        for (int turn = 0; turn < maxSteps && status == RUN_NONE; turn++) {
            if (!decodes(mem, n, pc) || faults(mem, n)) {
                status = RUN_FAULT;
            } else {
                perform(mem);
                steps++;
            }
        }
        if (status == RUN_NONE) {
            status = RUN_STEPS;
        }
    }

    private boolean faults(int[] mem, int n) {
        switch (mem[pc]) {
            case OP_LDX:
                return plusRegister(mem[pc + 2], mem[pc + 3]) >= n;
            case OP_JMPT:
                return plusRegister(mem[pc + 2], mem[pc + 1]) >= n;
            case OP_OUT:
                return valueCount >= MAX_VALUES;
            case OP_CALL:
                return depth >= MAX_DEPTH;
            case OP_RET:
                return depth <= 0;
            default:
                return false;
        }
    }

    private int plusRegister(int value, int register) {
        return (value + registers[register]) & MAX_BYTE;
    }

    /** Executes the instruction at pc, which decodes validly and does not fault. */
    private void perform(int[] mem) {
        int op = mem[pc];
        switch (op) {
            case OP_HALT:
                status = RUN_HALTED;
                break;
            case OP_JMP:
            case OP_BEQI:
            case OP_BGEI:
            case OP_CALL:
            case OP_RET:
            case OP_JMPT:
            case OP_JMPR:
                transfer(mem, op);
                break;
            case OP_OUT:
                values[valueCount] = registers[mem[pc + 1]];
                valueCount++;
                pc += 2;
                break;
            case OP_NOP:
                pc++;
                break;
            default:
                setRegister(mem, op);
                pc += lengthOf(op);
                break;
        }
    }

    private void setRegister(int[] mem, int op) {
        int r = mem[pc + 1];
        int operand = mem[pc + 2];
        switch (op) {
            case OP_ADD:
                registers[r] = plusRegister(registers[r], operand);
                break;
            case OP_ADDI:
                registers[r] = plusRegister(operand, r);
                break;
            case OP_LDX:
                registers[r] = mem[plusRegister(operand, mem[pc + 3])];
                break;
            default:
                registers[r] = operand;
                break;
        }
    }

    private void transfer(int[] mem, int op) {
        int next = pc + lengthOf(op);
        switch (op) {
            case OP_BEQI:
                pc = registers[mem[pc + 1]] == mem[pc + 2] ? mem[pc + 3] : next;
                break;
            case OP_BGEI:
                pc = registers[mem[pc + 1]] >= mem[pc + 2] ? mem[pc + 3] : next;
                break;
            case OP_CALL:
                stack[depth] = next;
                depth++;
                pc = mem[pc + 1];
                break;
            case OP_RET:
                depth--;
                pc = stack[depth];
                break;
            case OP_JMPT:
                pc = mem[plusRegister(mem[pc + 2], mem[pc + 1])];
                break;
            case OP_JMPR:
                pc = registers[mem[pc + 1]];
                break;
            default:
                pc = mem[pc + 1];
                break;
        }
    }
}
