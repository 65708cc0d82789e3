import java.lang.reflect.Constructor;
import java.lang.reflect.Field;
import java.lang.reflect.Method;
import java.lang.reflect.Modifier;
import java.util.Set;
import java.util.TreeSet;

/** The public face is the document's, and no other member can be seen from outside. */
public final class FaceTest {
    private static int wrong = 0;

    private static void fault(String text) {
        wrong++;
        System.out.println(text);
    }

    private static final Set<String> FACE = Set.of(
            "public static final int BAD_SIGNAL",
            "public static final int BAD_KIND",
            "public static final int BAD_DELAY",
            "public static final int FULL",
            "public static final int NOTHING",
            "public DeltaCycles()",
            "public int process(int,int,int,int)",
            "public int drive(int,int,int)",
            "public int poke(int)",
            "public int step()",
            "public int run(int,int)",
            "public void reset()",
            "public int value(int)",
            "public int time()",
            "public int pending()",
            "public int nextTime()",
            "public int events(int)",
            "public int cycles()",
            "public int coming(int)");

    private static Set<String> visibleMembers() {
        Set<String> found = new TreeSet<>();
        for (Field field : DeltaCycles.class.getDeclaredFields()) {
            if (!Modifier.isPrivate(field.getModifiers())) {
                found.add(field.toString().replace("DeltaCycles.", ""));
            }
        }
        for (Constructor<?> constructor : DeltaCycles.class.getDeclaredConstructors()) {
            if (!Modifier.isPrivate(constructor.getModifiers())) {
                found.add(constructor.toString());
            }
        }
        for (Method method : DeltaCycles.class.getDeclaredMethods()) {
            if (!Modifier.isPrivate(method.getModifiers())) {
                found.add(method.toString().replace("DeltaCycles.", ""));
            }
        }
        return found;
    }

    private static void checkFace() {
        Set<String> found = visibleMembers();
        for (String member : FACE) {
            if (!found.contains(member)) {
                fault("missing: " + member);
            }
        }
        for (String member : found) {
            if (!FACE.contains(member)) {
                fault("not in the document: " + member);
            }
        }
        int modifiers = DeltaCycles.class.getModifiers();
        if (!Modifier.isPublic(modifiers) || !Modifier.isFinal(modifiers)) {
            fault("the class is not public and final");
        }
    }

    public static void main(String[] args) {
        checkFace();
        System.out.println(wrong == 0 ? "the face is the document's" : wrong + " faults");
        if (wrong != 0) {
            System.exit(1);
        }
    }
}
