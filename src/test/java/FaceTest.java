import java.lang.reflect.Constructor;
import java.lang.reflect.Field;
import java.lang.reflect.Member;
import java.lang.reflect.Method;
import java.lang.reflect.Modifier;
import java.util.Arrays;
import java.util.Set;
import java.util.TreeSet;

// The class has the public face of the document and shows nothing else.
public final class FaceTest {
    private static final Set<String> FACE = new TreeSet<>(Arrays.asList(
            "public static final int BAD_ARG = -1",
            "public static final int FULL = -2",
            "public static final int NONE = -4",
            "public TileHands()",
            "public int TileHands.add(int)",
            "public int TileHands.drop(int)",
            "public int TileHands.turn()",
            "public int TileHands.clear()",
            "public int TileHands.size()",
            "public int TileHands.have(int)",
            "public int TileHands.distance()",
            "public int TileHands.wanted()",
            "public int TileHands.hope()",
            "public int TileHands.best()",
            "public int TileHands.groups()",
            "public int TileHands.ways()",
            "public int TileHands.completions()"));

    private static boolean isHidden(Member member) {
        return Modifier.isPrivate(member.getModifiers());
    }

    private static Set<String> shown() throws IllegalAccessException {
        Set<String> shown = new TreeSet<>();
        for (Field field : TileHands.class.getDeclaredFields()) {
            if (!isHidden(field)) {
                shown.add(Modifier.toString(field.getModifiers()) + " " + field.getType() + " " + field.getName()
                        + " = " + field.get(null));
            }
        }
        for (Constructor<?> constructor : TileHands.class.getDeclaredConstructors()) {
            if (!isHidden(constructor)) {
                shown.add(constructor.toString());
            }
        }
        for (Method method : TileHands.class.getDeclaredMethods()) {
            if (!isHidden(method)) {
                shown.add(method.toString());
            }
        }
        return shown;
    }

    public static void main(String[] args) throws IllegalAccessException {
        Set<String> shown = shown();
        boolean isRight = shown.equals(FACE)
                && Modifier.toString(TileHands.class.getModifiers()).equals("public final")
                && TileHands.class.getDeclaredClasses().length == 0;
        System.out.println(isRight ? "the face is as due" : "the face is " + shown + ", due is " + FACE);
        if (!isRight) {
            System.exit(1);
        }
    }
}
