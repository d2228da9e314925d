import java.lang.reflect.Constructor;
import java.lang.reflect.Field;
import java.lang.reflect.Method;
import java.lang.reflect.Modifier;
import java.util.Set;
import java.util.TreeSet;

/** The class shows the members of the document's public face and no other one. */
public final class FaceTest {
    private static final Set<String> FACE = Set.of(
        "public final class TwoDimMatcher",
        "public static final int TwoDimMatcher.BAD",
        "public static final int TwoDimMatcher.NONE",
        "public TwoDimMatcher(int,int)",
        "public boolean TwoDimMatcher.write(int,int,int)",
        "public boolean TwoDimMatcher.shape(int,int,int)",
        "public boolean TwoDimMatcher.paint(int,int,int,int)",
        "public boolean TwoDimMatcher.copy(int,int,int)",
        "public boolean TwoDimMatcher.stamp(int,int,int)",
        "public int TwoDimMatcher.letter(int,int)",
        "public int TwoDimMatcher.occurrences(int)",
        "public boolean TwoDimMatcher.occurs(int,int,int)",
        "public int TwoDimMatcher.next(int,int)",
        "public int TwoDimMatcher.covered()",
        "public int TwoDimMatcher.overlaps(int)");

    private static Set<String> shown() {
        Class<?> c = TwoDimMatcher.class;
        Set<String> shown = new TreeSet<>();
        shown.add(c.toGenericString());
        for (Field field : c.getDeclaredFields()) {
            if (!Modifier.isPrivate(field.getModifiers())) {
                shown.add(field.toString());
            }
        }
        for (Constructor<?> constructor : c.getDeclaredConstructors()) {
            shown.add(constructor.toString());
        }
        for (Method method : c.getDeclaredMethods()) {
            if (!Modifier.isPrivate(method.getModifiers())) {
                shown.add(method.toString());
            }
        }
        return shown;
    }

    public static void main(String[] args) {
        Set<String> missing = new TreeSet<>(FACE);
        missing.removeAll(shown());
        Set<String> extra = shown();
        extra.removeAll(FACE);
        missing.forEach(member -> System.out.println("missing: " + member));
        extra.forEach(member -> System.out.println("not in the document: " + member));
        if (!missing.isEmpty() || !extra.isEmpty()) {
            System.exit(1);
        }
        System.out.println("the face is the document's");
    }
}
