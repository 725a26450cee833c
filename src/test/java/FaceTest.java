import java.lang.reflect.Constructor;
import java.lang.reflect.Field;
import java.lang.reflect.Method;
import java.lang.reflect.Modifier;
import java.util.Arrays;
import java.util.Set;
import java.util.TreeSet;

// The public face of the document and no more, and the rules of LANGUAGE.md on members and types.
public final class FaceTest {
    private static final Set<String> FACE = Set.of(
        "public static final int BAD",
        "public static final int IDLE",
        "public static final int HELD",
        "public static final int FULL",
        "public AriesEngine(int)",
        "public int begin(int)",
        "public int write(int,int,int)",
        "public int add(int,int,int)",
        "public int read(int)",
        "public int commit(int)",
        "public int abort(int)",
        "public int mark(int)",
        "public int back(int)",
        "public int crash()",
        "public int crashTwice(int)",
        "public int checkpoint()",
        "public int holds(int)");
    private static final Set<Class<?>> TYPES = Set.of(
        int.class, long.class, short.class, byte.class, char.class, boolean.class);

    private static int wrong = 0;

    private static void check(boolean fine, String fault) {
        if (!fine) {
            wrong++;
            System.out.println(fault);
        }
    }

    private static String plain(String member) {
        return member.replace("AriesEngine.", "");
    }

    private static boolean isAllowed(Class<?> type) {
        return TYPES.contains(type) || type.isArray() && TYPES.contains(type.getComponentType());
    }

    private static void checkFields(Class<?> c, Set<String> seen) {
        int own = 0;
        for (Field f : c.getDeclaredFields()) {
            boolean isStatic = Modifier.isStatic(f.getModifiers());
            boolean isFinal = Modifier.isFinal(f.getModifiers());
            check(isAllowed(f.getType()), "type of field " + f);
            check(!isStatic || isFinal && (f.getType() == int.class || f.getType() == long.class), "static field " + f);
            own += isStatic ? 0 : 1;
            if (!Modifier.isPrivate(f.getModifiers())) {
                seen.add(plain(f.toString()));
            }
        }
        check(own <= 40, own + " fields");
    }

    private static void checkMethods(Class<?> c, Set<String> seen) {
        Set<String> publicNames = new TreeSet<>();
        for (Method m : c.getDeclaredMethods()) {
            if (!Modifier.isPrivate(m.getModifiers())) {
                seen.add(plain(m.toString()));
                publicNames.add(m.getName());
            }
        }
        for (Method m : c.getDeclaredMethods()) {
            check(!Modifier.isPrivate(m.getModifiers()) || !publicNames.contains(m.getName()), "name of " + m);
            check(m.getParameterCount() <= 7, "parameters of " + m);
            check(Arrays.stream(m.getParameterTypes()).allMatch(FaceTest::isAllowed), "parameter types of " + m);
            check(m.getReturnType() == void.class || TYPES.contains(m.getReturnType()), "answer of " + m);
        }
    }

    public static void main(String[] args) {
        Class<?> c = AriesEngine.class;
        Set<String> seen = new TreeSet<>();
        check(Modifier.isPublic(c.getModifiers()) && Modifier.isFinal(c.getModifiers()), "the class is not public final");
        check(c.getDeclaredClasses().length == 0, "there is a nested class");
        check(c.getSuperclass() == Object.class && c.getInterfaces().length == 0, "there is a parent class");
        for (Constructor<?> k : c.getDeclaredConstructors()) {
            if (!Modifier.isPrivate(k.getModifiers())) {
                seen.add(plain(k.toString()));
            }
        }
        checkFields(c, seen);
        checkMethods(c, seen);
        for (String member : FACE) {
            check(seen.contains(member), "missing: " + member);
        }
        for (String member : seen) {
            check(FACE.contains(member), "not of the face: " + member);
        }
        check(AriesEngine.BAD == -1, "BAD is " + AriesEngine.BAD);
        check(AriesEngine.IDLE == -2, "IDLE is " + AriesEngine.IDLE);
        check(AriesEngine.HELD == -3, "HELD is " + AriesEngine.HELD);
        check(AriesEngine.FULL == -4, "FULL is " + AriesEngine.FULL);
        System.out.println(wrong == 0 ? "the face is as due" : wrong + " faults in the face");
        if (wrong != 0) {
            System.exit(1);
        }
    }
}
