import java.lang.reflect.Member;
import java.lang.reflect.Method;
import java.lang.reflect.Modifier;
import java.util.Set;
import java.util.TreeSet;

/** The public face: the document's constant, constructor and methods, with what they throw, and nothing else. */
public final class FaceTest {
    private static final Checks CHECKS = new Checks();
    private static final String[] FACE = {
        "boolean alike(int int) IndexOutOfBoundsException", "boolean end(int)", "boolean now(int)", "boolean room(int)",
        "boolean shadowed(int int) IndexOutOfBoundsException NoSuchElementException",
        "int connection(int int) NoSuchElementException", "int count(int)", "int datagram(int) IllegalArgumentException",
        "int fault()", "int feed(int int int int int)", "int found(int) NoSuchElementException",
        "int least(int int) IndexOutOfBoundsException", "int load(int) IndexOutOfBoundsException",
        "int match(int int int int int int int int) IndexOutOfBoundsException IllegalArgumentException",
        "int octet(int) NoSuchElementException", "int pack() NoSuchElementException",
        "int packet(int int int int int int int) IllegalArgumentException",
        "int rule(int int int) IndexOutOfBoundsException NoSuchElementException",
        "int rules(int) IndexOutOfBoundsException", "int write(int) IndexOutOfBoundsException"};

    public static void main(String[] args) {
        CHECKS.sentence("The public face", "public final class GateHouse {");
        Class<GateHouse> face = GateHouse.class;
        CHECKS.same("public and final", Modifier.toString(face.getModifiers()), "public final");
        CHECKS.same("methods", methods(face).toString(), new TreeSet<>(Set.of(FACE)).toString());
        CHECKS.same("fields", names(face.getDeclaredFields()), "[public static final NONE]");
        CHECKS.same("constructors", names(face.getDeclaredConstructors()), "[public GateHouse]");
        CHECKS.same("NONE", GateHouse.NONE, -1);
        for (Class<?> inner : face.getDeclaredClasses()) {
            int modifiers = inner.getModifiers();
            CHECKS.same("inside, static: " + inner.getName(), Modifier.isStatic(modifiers), true);
            CHECKS.same("inside, not public: " + inner.getName(), Modifier.isPublic(modifiers) || Modifier.isProtected(modifiers), false);
        }
        CHECKS.end();
    }

    private static Set<String> methods(Class<?> face) {
        Set<String> all = new TreeSet<>();
        for (Method method : face.getDeclaredMethods()) {
            if (!Modifier.isPrivate(method.getModifiers()) && !method.isSynthetic()) {
                all.add(method.getReturnType() + " " + method.getName() + list(method.getParameterTypes(), "(", ")")
                        + list(method.getExceptionTypes(), method.getExceptionTypes().length == 0 ? "" : " ", ""));
            }
        }
        return all;
    }

    private static String list(Class<?>[] types, String before, String behind) {
        StringBuilder all = new StringBuilder(before);
        for (int k = 0; k < types.length; k++) {
            all.append(k == 0 ? "" : " ").append(types[k].getSimpleName());
        }
        return all.append(behind).toString();
    }

    /** Members that are not private. */
    private static String names(Member[] members) {
        Set<String> all = new TreeSet<>();
        for (Member member : members) {
            if (!Modifier.isPrivate(member.getModifiers())) {
                String name = member.getName();
                all.add(Modifier.toString(member.getModifiers()) + " " + name);
            }
        }
        return all.toString();
    }
}
