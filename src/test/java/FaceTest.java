import java.lang.reflect.Member;
import java.lang.reflect.Method;
import java.lang.reflect.Modifier;
import java.util.Set;
import java.util.TreeSet;

/** The public face, the constants, and that a refused call and a used object change no answer. */
public final class FaceTest {
    private static final Set<String> FACE = Set.of(
        "int BAD_ARG", "int NONE", "int O", "KoblitzTauNaf(int)",
        "int times(int, int)", "int over(int, int)", "boolean isPoint(int)", "int points()", "int next(int)",
        "int add(int, int)", "int negate(int)", "int multiple(int, int)", "int combine(int, int, int, int)",
        "int order(int)", "int half(int)", "int halves(int)", "int square(int)", "int log(int, int)");

    public static void main(String[] args) {
        constants();
        face();
        sameAnswersAllAlong();
        Check.end();
    }

    private static void constants() {
        Check.due("BAD_ARG", KoblitzTauNaf.BAD_ARG, -1);
        Check.due("NONE", KoblitzTauNaf.NONE, -4);
        Check.due("O", KoblitzTauNaf.O, 16384);
    }

    private static void face() {
        Class<?> type = KoblitzTauNaf.class;
        Set<String> seen = new TreeSet<>();
        for (var field : type.getDeclaredFields()) {
            if (isSeen(field)) {
                seen.add(field.getType() + " " + field.getName());
            }
        }
        for (var made : type.getDeclaredConstructors()) {
            if (isSeen(made)) {
                seen.add(type.getName() + parameters(made.getParameterTypes()));
            }
        }
        for (Method method : type.getDeclaredMethods()) {
            if (isSeen(method)) {
                seen.add(method.getReturnType() + " " + method.getName() + parameters(method.getParameterTypes()));
            }
        }
        Check.due("the face is the document's, seen: " + seen, seen.equals(FACE), true);
        int modifiers = type.getModifiers();
        Check.due("public and final", Modifier.isPublic(modifiers) && Modifier.isFinal(modifiers), true);
    }

    private static boolean isSeen(Member member) {
        return !Modifier.isPrivate(member.getModifiers());
    }

    private static String parameters(Class<?>[] types) {
        StringBuilder text = new StringBuilder("(");
        for (Class<?> type : types) {
            text.append(text.length() == 1 ? "" : ", ").append(type);
        }
        return text.append(")").toString();
    }

    /** One object through 512 calls, refused ones between answered ones, beside a second object on the other curve. */
    private static void sameAnswersAllAlong() {
        KoblitzTauNaf one = new KoblitzTauNaf(1);
        KoblitzTauNaf zero = new KoblitzTauNaf(0);
        for (int round = 0; round < 64; round++) {
            Check.due("points", one.points(), 142);
            Check.due("points", zero.points(), 116);
            Check.due("add", one.add(0, 348), -1, 0, 348);
            Check.due("add", zero.add(0, 128), -1, 0, 128);
            Check.due("order", one.order(348), 142, 348);
            Check.due("order", zero.order(128), 4, 128);
            Check.due("half", one.half(1), -4, 1);
            Check.due("half", zero.half(128), -4, 128);
            Check.due("multiple", one.multiple(1000001, 348), -1, 1000001, 348);
            Check.due("multiple", zero.multiple(-1000001, 128), -1, -1000001, 128);
            Check.due("log", one.log(348, 469), 4, 348, 469);
            Check.due("log", zero.log(128, 1), 2, 128, 1);
            Check.due("over", one.over(5, 0), -1, 5, 0);
            Check.due("over", zero.over(5, 0), -1, 5, 0);
            Check.due("next", one.next(400), 469, 400);
            Check.due("next", zero.next(130), 1553, 130);
        }
    }
}
