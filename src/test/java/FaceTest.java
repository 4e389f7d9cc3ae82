import java.lang.reflect.Constructor;
import java.lang.reflect.Executable;
import java.lang.reflect.Field;
import java.lang.reflect.Method;
import java.lang.reflect.Modifier;
import java.util.Set;
import java.util.TreeSet;

/** The class shows the members of the document's face and no others. */
public final class FaceTest {
    private static final Set<String> FACE = Set.of(
        "BAD_READ = -1", "BAD_SITE = -2", "BAD_TRUST = -3", "FULL = -4",
        "ReadPhaser()",
        "int read()",
        "int say(int, int, int, int)",
        "int stretch(int, int, int)",
        "int drop()",
        "int least()",
        "int sorting()",
        "int ties()",
        "int costOf(int)",
        "int leastForced()",
        "int sortingForced()",
        "int leastWith(int, int, boolean)",
        "int cover(int)");

    private static String parameters(Executable member) {
        StringBuilder text = new StringBuilder();
        for (Class<?> type : member.getParameterTypes()) {
            text.append(text.length() == 0 ? "" : ", ").append(type.getName());
        }
        return "(" + text + ")";
    }

    /** Public instance methods and public constants are told as in the face; anything odd is told with its modifiers. */
    private static String odd(int modifiers, int plain) {
        return modifiers == plain ? "" : Modifier.toString(modifiers) + " ";
    }

    private static Set<String> shown() throws IllegalAccessException {
        Set<String> shown = new TreeSet<>();
        int constant = Modifier.PUBLIC | Modifier.STATIC | Modifier.FINAL;
        for (Field f : ReadPhaser.class.getDeclaredFields()) {
            if (f.getModifiers() == constant && f.getType() == int.class) {
                shown.add(f.getName() + " = " + f.getInt(null));
            } else if (!Modifier.isPrivate(f.getModifiers())) {
                shown.add(f.toString());
            }
        }
        for (Constructor<?> c : ReadPhaser.class.getDeclaredConstructors()) {
            shown.add(odd(c.getModifiers(), Modifier.PUBLIC) + c.getName() + parameters(c));
        }
        for (Method m : ReadPhaser.class.getDeclaredMethods()) {
            if (!Modifier.isPrivate(m.getModifiers())) {
                shown.add(odd(m.getModifiers(), Modifier.PUBLIC) + m.getReturnType().getName() + " " + m.getName() + parameters(m));
            }
        }
        return shown;
    }

    public static void main(String[] args) throws IllegalAccessException {
        Set<String> missing = new TreeSet<>(FACE);
        missing.removeAll(shown());
        Set<String> extra = shown();
        extra.removeAll(FACE);
        boolean isFinal = ReadPhaser.class.getModifiers() == (Modifier.PUBLIC | Modifier.FINAL);
        if (!missing.isEmpty() || !extra.isEmpty() || !isFinal) {
            System.out.println("missing: " + missing + ", extra: " + extra + ", public and final: " + isFinal);
            System.exit(1);
        }
        System.out.println("the face is as due");
    }
}
