import java.lang.reflect.Constructor;
import java.lang.reflect.Field;
import java.lang.reflect.Method;
import java.lang.reflect.Modifier;
import java.util.Arrays;
import java.util.Set;
import java.util.TreeSet;

/** The public face: its constants, its constructor, its methods and no other. */
public final class FaceTest {
    private static final String[] METHODS = {
        "int append(int, int, int, int, int)", "int load()", "int errorPosition()", "int count(int)",
        "int process(int, int)", "int stack(int, int)", "int number(int, int)", "int slot(int)",
        "int command(int, int, int)", "int said(int, int)", "int trace(int, int)", "int whyStuck(int)",
        "int stuck()", "int helpers(int)", "int unfair()", "int hungriest()", "double waitShare()",
        "float fullness()", "int turnsLeft()", "int wouldSay(int, int)", "int wouldFail(int)",
        "int fairest()", "int bestSlot(int)", "int run(int)", "int allow(int, int, boolean)",
        "int setTurn(int, int)", "int put(int, int)", "int hand(int, int)", "int kill(int)",
        "int wake(int)", "int undo()", "void save(int)", "int restore(int)", "int writeStacks()",
        "int writtenByte(int)"};
    private static final String[] CONSTANTS = {"NONE", "NOTHING", "SYNTAX_ERROR", "VALUE_ERROR", "UNKNOWN",
        "TWICE", "TOO_MANY"};

    public static void main(String[] args) {
        constants();
        methods();
        privateNames();
        Check.end();
    }

    private static void constants() {
        Check.same("NONE", StackDesk.NONE, -1);
        Check.same("NOTHING", StackDesk.NOTHING, -1000000);
        Check.same("SYNTAX_ERROR", StackDesk.SYNTAX_ERROR, -2);
        Check.same("VALUE_ERROR", StackDesk.VALUE_ERROR, -3);
        Check.same("UNKNOWN", StackDesk.UNKNOWN, -4);
        Check.same("TWICE", StackDesk.TWICE, -5);
        Check.same("TOO_MANY", StackDesk.TOO_MANY, -6);
        Set<String> seen = new TreeSet<>();
        for (Field field : StackDesk.class.getDeclaredFields()) {
            if (!Modifier.isPrivate(field.getModifiers())) {
                seen.add(field.getName());
            }
        }
        Check.same("fields that are not private", seen.toString(), new TreeSet<>(Arrays.asList(CONSTANTS)).toString());
    }

    private static void methods() {
        Set<String> seen = new TreeSet<>();
        for (Method method : StackDesk.class.getDeclaredMethods()) {
            if (!Modifier.isPrivate(method.getModifiers()) && !method.isSynthetic()) {
                String parameters = Arrays.toString(method.getParameterTypes());
                seen.add(method.getReturnType() + " " + method.getName() + "("
                        + parameters.substring(1, parameters.length() - 1) + ")");
            }
        }
        Check.same("methods that are not private", seen.toString(), new TreeSet<>(Arrays.asList(METHODS)).toString());
        Constructor<?>[] constructors = StackDesk.class.getDeclaredConstructors();
        Check.same("constructors", constructors.length, 1);
        Check.same("parameters of the constructor", constructors[0].getParameterCount(), 0);
        Check.same("modifiers", Modifier.toString(StackDesk.class.getModifiers()), "public final");
    }

    /** LANGUAGE.md rule 1: no private method bears the name of a public one. */
    private static void privateNames() {
        Set<String> names = new TreeSet<>();
        for (Method method : StackDesk.class.getDeclaredMethods()) {
            if (Modifier.isPublic(method.getModifiers())) {
                names.add(method.getName());
            }
        }
        Class<?>[] inner = StackDesk.class.getDeclaredClasses();
        for (Class<?> one : inner) {
            Check.same(one + " is static", Modifier.isStatic(one.getModifiers()) ? 1 : 0, 1);
            Check.same(one + " is public", Modifier.isPublic(one.getModifiers()) ? 1 : 0, 0);
            for (Method method : one.getDeclaredMethods()) {
                Check.same(method + " bears the name of a public one", names.contains(method.getName()) ? 1 : 0, 0);
            }
        }
    }
}
