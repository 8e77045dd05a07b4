import java.lang.reflect.Constructor;
import java.lang.reflect.Field;
import java.lang.reflect.Method;
import java.lang.reflect.Modifier;
import java.util.Set;
import java.util.TreeSet;

/** The public face: what the document lists, and nothing else that is not private. */
public final class FaceTest {
    private static final String[] METHODS = {
        "public void clearProgram()", "public int function(int,int,int)",
        "public boolean node(int,int)", "public int compile()", "public int getCode()",
        "public int getFaultFunction()", "public long getBound()",
        "public boolean input(int,int,int)", "public boolean start(int)", "public int run(int)",
        "public int getStatus()", "public long getCalls()", "public int getDepth()",
        "public int resultNat()", "public int resultLength()", "public int resultElem(int)"};

    private static final String[] CONSTANTS = {
        "MAX_FUNCS=6", "MAX_NODES=64", "MAX_DEPTH=16", "MAX_RUN=200", "MAX_FUEL=100000",
        "BOUND_CAP=1000000000000", "NAT=0", "LIST=1", "K_VAR=0", "K_ZERO=1", "K_SUCC=2", "K_NIL=3",
        "K_CONS=4", "K_CALL=5", "K_CASE_NAT=6", "K_CASE_LIST=7", "IN_NAT=0", "IN_NIL=1",
        "IN_CONS=2", "CODE_NOT_COMPILED=0", "CODE_OK=1", "CODE_SYNTAX=2", "CODE_SCOPE=3",
        "CODE_CALL=4", "CODE_TYPE=5", "CODE_DESCENT=6", "CODE_EMPTY=7", "ST_IDLE=0", "ST_READY=1",
        "ST_DONE=2", "ST_OUT_OF_FUEL=3", "ST_OVERFLOW=4", "ST_TOO_DEEP=5"};

    public static void main(String[] args) throws IllegalAccessException {
        Class<?> type = SizedTermination.class;
        Due.same("class", Modifier.toString(type.getModifiers()), "public final");
        Due.same("superclass", type.getSuperclass(), Object.class);
        Due.same("interfaces", type.getInterfaces().length, 0);
        Due.same("nested classes", type.getDeclaredClasses().length, 0);
        Due.same("methods", methods(type), Set.of(METHODS));
        Due.same("constants", constants(type), Set.of(CONSTANTS));
        Constructor<?>[] constructors = type.getDeclaredConstructors();
        Due.same("constructors", constructors.length, 1);
        Due.same("constructor", constructors[0].toString(), "public SizedTermination(int)");
        Due.end();
    }

    private static Set<String> methods(Class<?> type) {
        Set<String> shown = new TreeSet<>();
        for (Method method : type.getDeclaredMethods()) {
            if (!Modifier.isPrivate(method.getModifiers())) {
                shown.add(method.toString().replace("SizedTermination.", ""));
            }
        }
        return shown;
    }

    private static Set<String> constants(Class<?> type) throws IllegalAccessException {
        Set<String> shown = new TreeSet<>();
        for (Field field : type.getDeclaredFields()) {
            if (!Modifier.isPrivate(field.getModifiers())) {
                Due.same(field.getName(), Modifier.toString(field.getModifiers()), "public static final");
                boolean wide = field.getName().equals("BOUND_CAP");
                Due.same(field.getName(), field.getType(), wide ? long.class : int.class);
                shown.add(field.getName() + "=" + field.get(null));
            }
        }
        return shown;
    }
}
