import java.lang.reflect.Constructor;
import java.lang.reflect.Field;
import java.lang.reflect.Method;
import java.lang.reflect.Modifier;
import java.util.Set;
import java.util.TreeSet;

// The class shows the constants, the constructor and the methods of the document, and hides all else.
public final class FaceTest {
    private static final String[] MEMBERS = {
        "public Q15DspCompiler()",
        "public boolean Q15DspCompiler.feed(int)",
        "public boolean Q15DspCompiler.sound()",
        "public int Q15DspCompiler.clear()",
        "public int Q15DspCompiler.node(int,int,int)",
        "public int Q15DspCompiler.nodes()",
        "public int Q15DspCompiler.repeat(int,int)",
        "public int Q15DspCompiler.samples()",
        "public int Q15DspCompiler.tap(int,int,int)",
        "public int Q15DspCompiler.value(int)",
        "public void Q15DspCompiler.restart()",
        "INPUT = 0", "CONSTANT = 1", "DELAY = 2", "ADD = 3", "SUB = 4", "MAX = 5", "NEGATE = 6", "ABS = 7",
        "LEFT = 8", "RIGHT = 9", "SUM = 10", "BAD = -1", "FULL = -2",
    };

    public static void main(String[] args) throws IllegalAccessException {
        Set<String> want = new TreeSet<>(Set.of(MEMBERS));
        Set<String> got = visibleMembers();
        boolean right = want.equals(got);
        if (!right) {
            System.out.println("the face is " + got + ", due is " + want);
        }
        int modifiers = Q15DspCompiler.class.getModifiers();
        if (!Modifier.isPublic(modifiers) || !Modifier.isFinal(modifiers)) {
            System.out.println("the class is not public and final");
            right = false;
        }
        if (!right) {
            System.exit(1);
        }
        System.out.println("the face is as due");
    }

    private static Set<String> visibleMembers() throws IllegalAccessException {
        Set<String> found = new TreeSet<>();
        for (Constructor<?> c : Q15DspCompiler.class.getDeclaredConstructors()) {
            if (!Modifier.isPrivate(c.getModifiers())) {
                found.add(c.toString());
            }
        }
        for (Method m : Q15DspCompiler.class.getDeclaredMethods()) {
            if (!Modifier.isPrivate(m.getModifiers())) {
                found.add(m.toString());
            }
        }
        for (Field f : Q15DspCompiler.class.getDeclaredFields()) {
            if (!Modifier.isPrivate(f.getModifiers())) {
                found.add(constantText(f));
            }
        }
        return found;
    }

    private static String constantText(Field f) throws IllegalAccessException {
        int wanted = Modifier.PUBLIC | Modifier.STATIC | Modifier.FINAL;
        if (f.getModifiers() != wanted || f.getType() != int.class) {
            return f.toString();
        }
        return f.getName() + " = " + f.getInt(null);
    }
}
