import java.lang.reflect.Constructor;
import java.lang.reflect.Field;
import java.lang.reflect.Member;
import java.lang.reflect.Method;
import java.lang.reflect.Modifier;
import java.util.Set;
import java.util.TreeSet;

/** The public face: all of it as it is written in the document, and nothing beside it. */
public final class FaceTest {
    private static final Due DUE = new Due("FaceTest");
    private static final Set<String> FACE = Set.of(
            "public static final int SlotRadio.NONE",
            "public static final int SlotRadio.UNKNOWN",
            "public static final int SlotRadio.OUTSIDE",
            "public static final int SlotRadio.ROOM",
            "public SlotRadio(int)",
            "public int SlotRadio.hear(int,int,boolean)",
            "public int SlotRadio.coin(int)",
            "public int SlotRadio.threshold(int)",
            "public int SlotRadio.offer(int,int,int)",
            "public int SlotRadio.noise(int,long,int)",
            "public int SlotRadio.run(int)",
            "public int SlotRadio.event(int,int)",
            "public int SlotRadio.state(int,int)",
            "public int SlotRadio.sent(int,int)",
            "public long SlotRadio.now()");

    public static void main(String[] args) {
        constants();
        membersThatAreSeen();
        privateMethodsHaveNamesOfTheirOwn();
        classesInside();
        DUE.end();
    }

    private static void constants() {
        DUE.is("NONE", SlotRadio.NONE, -1);
        DUE.is("UNKNOWN", SlotRadio.UNKNOWN, -11);
        DUE.is("OUTSIDE", SlotRadio.OUTSIDE, -12);
        DUE.is("ROOM", SlotRadio.ROOM, -14);
    }

    private static void membersThatAreSeen() {
        Set<String> seen = new TreeSet<>();
        for (Field field : SlotRadio.class.getDeclaredFields()) {
            addUnlessPrivate(seen, field);
        }
        for (Method method : SlotRadio.class.getDeclaredMethods()) {
            addUnlessPrivate(seen, method);
        }
        for (Constructor<?> constructor : SlotRadio.class.getDeclaredConstructors()) {
            addUnlessPrivate(seen, constructor);
        }
        for (String member : FACE) {
            DUE.is("there is " + member, seen.contains(member) ? 1 : 0, 1);
        }
        for (String member : seen) {
            DUE.is("the document has " + member, FACE.contains(member) ? 1 : 0, 1);
        }
    }

    private static void addUnlessPrivate(Set<String> seen, Member member) {
        if (!Modifier.isPrivate(member.getModifiers())) {
            seen.add(member.toString());
        }
    }

    /** Rule 1 of LANGUAGE.md. */
    private static void privateMethodsHaveNamesOfTheirOwn() {
        Set<String> names = new TreeSet<>();
        for (Method method : SlotRadio.class.getDeclaredMethods()) {
            if (Modifier.isPublic(method.getModifiers())) {
                names.add(method.getName());
            }
        }
        for (Method method : SlotRadio.class.getDeclaredMethods()) {
            boolean taken = Modifier.isPrivate(method.getModifiers()) && names.contains(method.getName());
            DUE.is("a private method has the name " + method.getName(), taken ? 1 : 0, 0);
        }
    }

    private static void classesInside() {
        DUE.is("public final", SlotRadio.class.getModifiers(), Modifier.PUBLIC | Modifier.FINAL);
        for (Class<?> inside : SlotRadio.class.getDeclaredClasses()) {
            int modifiers = inside.getModifiers();
            DUE.is(inside + " is seen", modifiers & (Modifier.PUBLIC | Modifier.PROTECTED), 0);
            DUE.is(inside + " is static", modifiers & Modifier.STATIC, Modifier.STATIC);
        }
    }
}
