import java.lang.reflect.Constructor;
import java.lang.reflect.Field;
import java.lang.reflect.Member;
import java.lang.reflect.Method;
import java.lang.reflect.Modifier;
import java.util.Set;
import java.util.TreeSet;

/** The public face: all of it, and nothing beside it. */
public final class FaceTest {
    public static void main(String[] args) {
        Due due = new Due("FaceTest");
        due.is("NONE", SlotRadio.NONE, -1);
        due.is("UNKNOWN", SlotRadio.UNKNOWN, -11);
        due.is("OUTSIDE", SlotRadio.OUTSIDE, -12);
        due.is("ROOM", SlotRadio.ROOM, -14);

        Set<String> want = new TreeSet<>(Set.of("NONE", "UNKNOWN", "OUTSIDE", "ROOM", "SlotRadio", "hear", "coin",
                "threshold", "offer", "noise", "run", "event", "state", "sent", "now"));
        Set<String> got = new TreeSet<>();
        for (Field field : SlotRadio.class.getDeclaredFields()) {
            addUnlessPrivate(got, field);
        }
        for (Method method : SlotRadio.class.getDeclaredMethods()) {
            addUnlessPrivate(got, method);
            due.is(method.getName() + " is private though a public method has its name",
                    Modifier.isPrivate(method.getModifiers()) && want.contains(method.getName()) ? 1 : 0, 0);
        }
        for (Constructor<?> constructor : SlotRadio.class.getDeclaredConstructors()) {
            addUnlessPrivate(got, constructor);
        }
        due.is("members " + got, got.equals(want) ? 1 : 0, 1);
        due.is("public final", SlotRadio.class.getModifiers() & (Modifier.PUBLIC | Modifier.FINAL),
                Modifier.PUBLIC | Modifier.FINAL);
        for (Class<?> inside : SlotRadio.class.getDeclaredClasses()) {
            int shown = inside.getModifiers() & (Modifier.PUBLIC | Modifier.PROTECTED);
            due.is(inside + " is shown", shown, 0);
        }
        due.end();
    }

    private static void addUnlessPrivate(Set<String> names, Member member) {
        if (!Modifier.isPrivate(member.getModifiers())) {
            names.add(member.getName());
        }
    }
}
