import java.lang.reflect.Constructor;
import java.lang.reflect.Field;
import java.lang.reflect.Member;
import java.lang.reflect.Method;
import java.lang.reflect.Modifier;
import java.util.Set;
import java.util.TreeSet;

/** The class has the public face of the document, and beside it private members alone. */
public final class FaceTest {
    private static final Set<String> FACE = Set.of(
            "public SlitherLoop()",
            "public int SlitherLoop.clue(int,int,int)",
            "public int SlitherLoop.mark(int,int)",
            "public void SlitherLoop.clear()",
            "public int SlitherLoop.solutions()",
            "public int SlitherLoop.votes(int)",
            "public boolean SlitherLoop.chosen(int,int)",
            "public int SlitherLoop.length(int)",
            "public int SlitherLoop.inside(int)",
            "public int SlitherLoop.decided()",
            "public int SlitherLoop.shortest()",
            "public static final int SlitherLoop.BAD_CELL = -1",
            "public static final int SlitherLoop.BAD_EDGE = -2",
            "public static final int SlitherLoop.BAD_VALUE = -3",
            "public static final int SlitherLoop.NO_CLUE = 5",
            "public static final int SlitherLoop.OPEN = 0",
            "public static final int SlitherLoop.CHOSEN = 1",
            "public static final int SlitherLoop.CROSSED = 2");

    private static boolean isSeen(Member member) {
        return !Modifier.isPrivate(member.getModifiers());
    }

    private static Set<String> seenMembers() throws IllegalAccessException {
        Set<String> seen = new TreeSet<>();
        for (Constructor<?> one : SlitherLoop.class.getDeclaredConstructors()) {
            if (isSeen(one)) {
                seen.add(one.toString());
            }
        }
        for (Method one : SlitherLoop.class.getDeclaredMethods()) {
            if (isSeen(one)) {
                seen.add(one.toString());
            }
        }
        for (Field one : SlitherLoop.class.getDeclaredFields()) {
            if (isSeen(one)) {
                seen.add(one + " = " + (Modifier.isStatic(one.getModifiers()) ? one.get(null) : "?"));
            }
        }
        return seen;
    }

    public static void main(String[] args) throws IllegalAccessException {
        int wrong = 0;
        Set<String> seen = seenMembers();
        for (String one : new TreeSet<>(FACE)) {
            if (!seen.contains(one)) {
                wrong++;
                System.out.println("missing: " + one);
            }
        }
        for (String one : seen) {
            if (!FACE.contains(one)) {
                wrong++;
                System.out.println("not in the document: " + one);
            }
        }
        int modifiers = SlitherLoop.class.getModifiers();
        if (!Modifier.isPublic(modifiers) || !Modifier.isFinal(modifiers)) {
            wrong++;
            System.out.println("the class is not public and final");
        }
        System.out.println(wrong == 0 ? "the face is as due" : wrong + " parts of the face are not as due");
        if (wrong != 0) {
            System.exit(1);
        }
    }
}
