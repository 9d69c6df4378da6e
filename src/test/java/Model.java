import java.util.ArrayList;
import java.util.HashMap;
import java.util.List;
import java.util.Map;
import java.util.TreeMap;
import java.util.TreeSet;

/** The document's definitions, word for word and without care for speed, to compare ReasmDisasm with. */
final class Model {
    private static final String[] FORMS = {
        "", "", "rk", "ra", "rs", "rk", "ras", "r", "a", "rka", "rka", "a", "", "ra", "r",
    };

    private final int capacity;
    private List<Integer> image = new ArrayList<>();
    private TreeSet<Integer> entries = new TreeSet<>();
    private boolean analysed;
    private TreeSet<Integer> starts;
    private TreeSet<Integer> bad;
    private TreeMap<Integer, List<Integer>> tables;
    private TreeSet<Integer> symbols;
    private TreeSet<Integer> functions;
    private int unresolved;
    private int pad;
    private List<Integer> out;

    private int status;
    private int steps;
    private int pc;
    private int[] registers;
    private List<Integer> stack;
    private List<Integer> values;

    Model(int capacity) {
        this.capacity = Math.max(8, Math.min(64, capacity));
        reset();
    }

    void reset() {
        image = new ArrayList<>();
        entries = new TreeSet<>();
        analysed = false;
        clearRun();
    }

    private void clearRun() {
        status = 0;
        steps = 0;
        pc = 0;
        registers = new int[4];
        stack = new ArrayList<>();
        values = new ArrayList<>();
    }

    boolean putByte(int b) {
        if (b < 0 || b > 255 || image.size() == capacity) {
            return false;
        }
        image.add(b);
        analysed = false;
        return true;
    }

    boolean addEntry(int a) {
        if (a < 0 || a >= image.size() || entries.contains(a) || entries.size() == 8) {
            return false;
        }
        entries.add(a);
        analysed = false;
        return true;
    }

    private static boolean valid(List<Integer> mem, int p) {
        if (p >= mem.size() || mem.get(p) >= FORMS.length) {
            return false;
        }
        String form = FORMS[mem.get(p)];
        if (p + 1 + form.length() > mem.size()) {
            return false;
        }
        for (int i = 0; i < form.length(); i++) {
            boolean register = form.charAt(i) == 'r' || form.charAt(i) == 's';
            if (register && mem.get(p + 1 + i) > 3) {
                return false;
            }
        }
        return true;
    }

    private int operand(int p, char letter) {
        return image.get(p + 1 + FORMS[image.get(p)].indexOf(letter));
    }

    private List<Integer> table(int p) {
        List<Integer> positions = new ArrayList<>();
        if (p < 4 || image.get(p - 4) != 10 || image.get(p - 3) != operand(p, 'r')) {
            return positions;
        }
        int k = image.get(p - 2);
        int a = operand(p, 'a');
        for (int i = 0; k <= 16 && a + k <= image.size() && i < k; i++) {
            positions.add(a + i);
        }
        return positions;
    }

    private List<Integer> successors(int p) {
        List<Integer> next = new ArrayList<>();
        int op = image.get(p);
        if (op == 8 || op == 9 || op == 10 || op == 11) {
            next.add(operand(p, 'a'));
        }
        if (op == 13) {
            table(p).forEach(q -> next.add(image.get(q)));
        }
        if (op != 0 && op != 8 && op != 12 && op != 13 && op != 14) {
            next.add(p + 1 + FORMS[op].length());
        }
        return next;
    }

    boolean analyse(int givenPad) {
        if (givenPad < 0 || givenPad > 3 || image.isEmpty() || entries.isEmpty()) {
            return false;
        }
        pad = givenPad;
        findStarts();
        findMeanings();
        analysed = true;
        out = new ArrayList<>();
        for (int q = 0; q < image.size(); q++) {
            for (int i = 0; q > 0 && functions.contains(q) && i < pad; i++) {
                out.add(1);
            }
            out.add(symbols.contains(q) ? moved(image.get(q)) : image.get(q));
        }
        return true;
    }

    private void findStarts() {
        starts = new TreeSet<>();
        bad = new TreeSet<>();
        List<Integer> open = new ArrayList<>(entries);
        while (!open.isEmpty()) {
            int p = open.remove(open.size() - 1);
            if (p >= image.size() || starts.contains(p) || bad.contains(p)) {
                continue;
            }
            if (valid(image, p)) {
                starts.add(p);
                open.addAll(successors(p));
            } else {
                bad.add(p);
            }
        }
    }

    private void findMeanings() {
        tables = new TreeMap<>();
        symbols = new TreeSet<>();
        functions = new TreeSet<>(entries);
        unresolved = 0;
        for (int p : starts) {
            int op = image.get(p);
            if (FORMS[op].contains("a")) {
                symbols.add(p + 1 + FORMS[op].indexOf('a'));
            }
            if (op == 13 && !table(p).isEmpty()) {
                tables.put(p, table(p));
                symbols.addAll(table(p));
            } else if (op == 13 || op == 14) {
                unresolved++;
            }
            if (op == 11 && operand(p, 'a') < image.size()) {
                functions.add(operand(p, 'a'));
            }
        }
        symbols.removeIf(q -> image.get(q) >= image.size());
    }

    private int moved(int a) {
        int before = 0;
        for (int f : functions) {
            if (0 < f && f <= a) {
                before++;
            }
        }
        return a + pad * before;
    }

    private boolean asked(int q) {
        return analysed && q >= 0 && q < image.size();
    }

    int byteClass(int q) {
        if (!asked(q)) {
            return -1;
        }
        if (starts.contains(q)) {
            return 1;
        }
        if (bad.contains(q)) {
            return 4;
        }
        for (int p : starts) {
            if (p < q && q <= p + FORMS[image.get(p)].length()) {
                return 2;
            }
        }
        for (List<Integer> table : tables.values()) {
            if (table.contains(q)) {
                return 3;
            }
        }
        return 0;
    }

    int count(int k) {
        if (k == 9 || k == 10) {
            return k == 9 ? image.size() : entries.size();
        }
        if (!analysed || k < 0 || k > 10) {
            return -1;
        }
        int[] counts = new int[9];
        for (int q = 0; q < image.size(); q++) {
            counts[byteClass(q)]++;
        }
        counts[5] = functions.size();
        counts[6] = symbols.size();
        counts[7] = tables.size();
        counts[8] = unresolved;
        return counts[k];
    }

    boolean isSymbolic(int q) {
        return asked(q) && symbols.contains(q);
    }

    boolean isFunctionStart(int q) {
        return asked(q) && functions.contains(q);
    }

    int outSize() {
        return analysed ? out.size() : -1;
    }

    int outByte(int i) {
        return analysed && i >= 0 && i < out.size() ? out.get(i) : -1;
    }

    int mapAddr(int a) {
        return asked(a) ? moved(a) : -1;
    }

    boolean run(int which, int start, int maxSteps) {
        if (which < 0 || which > 1 || maxSteps < 1 || maxSteps > 2000) {
            return false;
        }
        if (start < 0 || start >= image.size() || (which == 1 && !analysed)) {
            return false;
        }
        List<Integer> mem = which == 0 ? image : out;
        clearRun();
        pc = which == 0 ? start : moved(start);
        while (status == 0) {
            if (steps == maxSteps) {
                status = 3;
            } else if (!valid(mem, pc) || !step(mem)) {
                status = 2;
            } else {
                steps++;
            }
        }
        return true;
    }

    /** Executes one instruction, or answers false and changes nothing if it faults. */
    private boolean step(List<Integer> mem) {
        String form = FORMS[mem.get(pc)];
        Map<Character, Integer> named = new HashMap<>();
        for (int i = 0; i < form.length(); i++) {
            named.put(form.charAt(i), mem.get(pc + 1 + i));
        }
        int r = named.getOrDefault('r', 0);
        int s = named.getOrDefault('s', 0);
        int k = named.getOrDefault('k', 0);
        int a = named.getOrDefault('a', 0);
        int next = pc + 1 + form.length();
        int op = mem.get(pc);
        int index = (a + registers[op == 13 ? r : s]) % 256;
        if ((op == 6 || op == 13) && index >= mem.size()) {
            return false;
        }
        if ((op == 7 && values.size() == 16) || (op == 11 && stack.size() == 8) || (op == 12 && stack.isEmpty())) {
            return false;
        }
        switch (op) {
            case 0 -> { status = 1; next = pc; }
            case 1 -> { }
            case 2 -> registers[r] = k;
            case 3 -> registers[r] = a;
            case 4 -> registers[r] = (registers[r] + registers[s]) % 256;
            case 5 -> registers[r] = (registers[r] + k) % 256;
            case 6 -> registers[r] = mem.get(index);
            case 7 -> values.add(registers[r]);
            case 8 -> next = a;
            case 9 -> next = registers[r] == k ? a : next;
            case 10 -> next = registers[r] >= k ? a : next;
            case 11 -> { stack.add(next); next = a; }
            case 12 -> next = stack.remove(stack.size() - 1);
            case 13 -> next = mem.get(index);
            default -> next = registers[r];
        }
        pc = next;
        return true;
    }

    int runInfo(int k) {
        int[] info = {status, steps, pc, values.size(), stack.size()};
        return k >= 0 && k < info.length ? info[k] : -1;
    }

    int runReg(int i) {
        return i >= 0 && i < 4 ? registers[i] : -1;
    }

    int runOut(int i) {
        return i >= 0 && i < values.size() ? values.get(i) : -1;
    }
}
