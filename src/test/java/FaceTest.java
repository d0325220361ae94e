import java.lang.reflect.Constructor;
import java.lang.reflect.Field;
import java.lang.reflect.Method;
import java.lang.reflect.Modifier;
import java.util.TreeSet;

/** The public face is the document's, with nothing more that another class could see. */
public final class FaceTest {
    private static final String[] METHODS = {
        "int addLine(int,int,int,int)", "int compile()", "int setBreakpoint(int)",
        "boolean clearBreakpoint(int)", "boolean restart()", "int cont()", "int stepInto()",
        "int stepOver()", "int stepOut()", "int state()", "int currentLine()", "int depth()",
        "int frameLine(int)", "int variable(int)", "int eventCount()", "boolean hasCode(int)"};
    private static final String[] CONSTANTS = {
        "K_SET=1", "K_OP=2", "K_IF=3", "K_WHILE=4", "K_END=5", "K_PROC=6", "K_CALL=7", "K_RET=8",
        "S_EDITING=0", "S_READY=1", "S_PAUSED=2", "S_FINISHED=3", "S_FAULTED=4",
        "R_REFUSED=0", "R_STEP=1", "R_BREAK=2", "R_LIMIT=3", "R_FINISHED=4", "R_FAULT=5",
        "MAX_LINES=32", "NUM_VARS=8", "NUM_PROCS=4"};

    public static void main(String[] args) throws Exception {
        Class<?> type = LineProgramDbg.class;
        Check.due("the class's modifiers", Modifier.toString(type.getModifiers()), "public final");
        Check.due("nested classes", type.getDeclaredClasses().length, 0);
        Check.due("methods", methods(type).toString(), sorted(METHODS).toString());
        Check.due("constants", constants(type).toString(), sorted(CONSTANTS).toString());
        Constructor<?>[] made = type.getDeclaredConstructors();
        Check.due("constructors", made.length, 1);
        Check.due("the constructor", made[0].toString(), "public LineProgramDbg(int,int)");
        Check.end();
    }

    private static TreeSet<String> sorted(String[] all) {
        return new TreeSet<>(java.util.Arrays.asList(all));
    }

    private static TreeSet<String> methods(Class<?> type) {
        TreeSet<String> seen = new TreeSet<>();
        for (Method m : type.getDeclaredMethods()) {
            if (!Modifier.isPrivate(m.getModifiers())) {
                Check.due("modifiers of " + m.getName(), Modifier.toString(m.getModifiers()), "public");
                seen.add(m.toString().replace("public ", "").replace("LineProgramDbg.", ""));
            }
        }
        return seen;
    }

    private static TreeSet<String> constants(Class<?> type) throws IllegalAccessException {
        TreeSet<String> seen = new TreeSet<>();
        for (Field f : type.getDeclaredFields()) {
            if (!Modifier.isPrivate(f.getModifiers())) {
                Check.due("kind of " + f.getName(), Modifier.toString(f.getModifiers()) + " " + f.getType(),
                        "public static final int");
                seen.add(f.getName() + "=" + f.getInt(null));
            }
        }
        return seen;
    }
}
