import java.lang.reflect.Constructor;
import java.lang.reflect.Field;
import java.lang.reflect.Method;
import java.lang.reflect.Modifier;
import java.util.TreeMap;
import java.util.TreeSet;

/** The public face: exactly the document's constants, constructor and methods, and all else private. */
public final class FaceTest {
    private static final String[] NAMES = {
        "OP_HALT=0", "OP_NOP=1", "OP_MOVI=2", "OP_LEA=3", "OP_ADD=4", "OP_ADDI=5", "OP_LDX=6", "OP_OUT=7",
        "OP_JMP=8", "OP_BEQI=9", "OP_BGEI=10", "OP_CALL=11", "OP_RET=12", "OP_JMPT=13", "OP_JMPR=14",
        "CLASS_NONE=0", "CLASS_START=1", "CLASS_OPERAND=2", "CLASS_TABLE=3", "CLASS_BAD=4",
        "K_FUNCS=5", "K_SYMBOLS=6", "K_TABLES=7", "K_UNRESOLVED=8", "K_SIZE=9", "K_ENTRIES=10",
        "MEM_IMAGE=0", "MEM_OUTPUT=1", "RUN_NONE=0", "RUN_HALTED=1", "RUN_FAULT=2", "RUN_STEPS=3",
        "INFO_STATUS=0", "INFO_STEPS=1", "INFO_PC=2", "INFO_OUTCOUNT=3", "INFO_DEPTH=4",
    };
    private static final String[] METHODS = {
        "void reset()", "boolean putByte(int)", "boolean addEntry(int)", "boolean analyse(int)",
        "int byteClass(int)", "int count(int)", "boolean isSymbolic(int)", "boolean isFunctionStart(int)",
        "int outSize()", "int outByte(int)", "int mapAddr(int)", "boolean run(int,int,int)",
        "int runInfo(int)", "int runReg(int)", "int runOut(int)",
    };

    public static void main(String[] args) throws Exception {
        Class<?> type = ReasmDisasm.class;
        Check.due("public", Modifier.isPublic(type.getModifiers()), true);
        Check.due("final", Modifier.isFinal(type.getModifiers()), true);
        constants(type);
        methods(type);
        Constructor<?>[] constructors = type.getDeclaredConstructors();
        Check.due("constructors", constructors.length, 1);
        Check.same("constructor", constructors[0].toString(), "public ReasmDisasm(int)");
        Check.due("nested classes", type.getDeclaredClasses().length, 0);
        Check.end();
    }

    private static void constants(Class<?> type) throws Exception {
        TreeSet<String> got = new TreeSet<>();
        for (Field field : type.getDeclaredFields()) {
            int flags = field.getModifiers();
            if (Modifier.isPublic(flags)) {
                Check.due(field + " is a constant", Modifier.isStatic(flags) && Modifier.isFinal(flags), true);
                Check.same("type of " + field.getName(), field.getType().getName(), "int");
                got.add(field.getName() + "=" + field.getInt(null));
            } else {
                Check.due(field + " is private", Modifier.isPrivate(flags), true);
            }
        }
        Check.same("constants", got.toString(), sorted(NAMES));
    }

    private static void methods(Class<?> type) {
        TreeMap<String, Boolean> isPublic = new TreeMap<>();
        TreeSet<String> got = new TreeSet<>();
        for (Method method : type.getDeclaredMethods()) {
            boolean open = Modifier.isPublic(method.getModifiers());
            Check.due(method + " is public or private", open || Modifier.isPrivate(method.getModifiers()), true);
            Boolean other = isPublic.put(method.getName(), open);
            Check.due(method + " shares its name with a public one", other != null && (other || open), false);
            if (open) {
                String[] words = method.toString().replace("ReasmDisasm.", "").split(" ", 2);
                got.add(words[1]);
            }
        }
        Check.same("methods", got.toString(), sorted(METHODS));
    }

    private static String sorted(String[] words) {
        return new TreeSet<>(java.util.Arrays.asList(words)).toString();
    }
}
