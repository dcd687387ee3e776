import java.lang.reflect.Constructor;
import java.lang.reflect.Field;
import java.lang.reflect.Member;
import java.lang.reflect.Method;
import java.lang.reflect.Modifier;
import java.util.Arrays;
import java.util.Set;
import java.util.TreeSet;

/** The public face is the document's, and nothing beside it can be seen from outside. */
public final class FaceTest {
    private static final String[] FACE = {
        "SecondSilence()",
        "int letter(int)", "int blank()", "int fault()", "int hall()",
        "int about(int, int)", "int as(int, int)", "int choose(int, int)", "int wind(int, int)",
        "int touch(int, int, boolean)", "int saying(int)", "int lot(int)",
        "int best(int, int)", "int rests(int, int)",
        "int hear(int, int)", "int forget()", "int winds(int)", "int touched(int)", "int sales(int, int, int)",
        "int image()", "int restore()", "int count(int)", "long digest()",
        "NONE -1", "UNKNOWN -101", "OUTSIDE -102", "STATE -103", "FULL -104"};

    public static void main(String[] args) throws IllegalAccessException {
        Due due = new Due();
        Set<String> seen = new TreeSet<>();
        for (Constructor<?> made : SecondSilence.class.getDeclaredConstructors()) {
            addIfSeen(seen, made, "SecondSilence" + types(made.getParameterTypes()));
        }
        for (Method method : SecondSilence.class.getDeclaredMethods()) {
            addIfSeen(seen, method, method.getReturnType() + " " + method.getName() + types(method.getParameterTypes()));
        }
        for (Field field : SecondSilence.class.getDeclaredFields()) {
            if (!Modifier.isPrivate(field.getModifiers())) {
                addIfSeen(seen, field, field.getName() + " " + field.getInt(null));
            }
        }
        Set<String> want = new TreeSet<>(Arrays.asList(FACE));
        due.holds("the face is " + want + ", it was " + seen, want.equals(seen));
        due.holds("the class is final", Modifier.isFinal(SecondSilence.class.getModifiers()));
        for (Class<?> inside : SecondSilence.class.getDeclaredClasses()) {
            due.holds(inside + " is private and static",
                    Modifier.isPrivate(inside.getModifiers()) && Modifier.isStatic(inside.getModifiers()));
        }
        due.close("FaceTest");
    }

    private static void addIfSeen(Set<String> seen, Member member, String text) {
        if (!Modifier.isPrivate(member.getModifiers())) {
            seen.add(text);
        }
    }

    private static String types(Class<?>[] types) {
        StringBuilder text = new StringBuilder("(");
        for (int i = 0; i < types.length; i++) {
            text.append(i == 0 ? "" : ", ").append(types[i].getName());
        }
        return text.append(")").toString();
    }

    private FaceTest() {
    }
}
