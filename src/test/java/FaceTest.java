import java.lang.reflect.Member;
import java.lang.reflect.Method;
import java.lang.reflect.Modifier;
import java.util.Arrays;
import java.util.Set;
import java.util.TreeSet;
import java.util.stream.Collectors;
import java.util.stream.Stream;

/** The public face, the constants, and that a refused call and a used object change no answer. */
public final class FaceTest {
    private static final Class<?> TYPE = KoblitzTauNaf.class;

    private static final Set<String> FACE = Set.of(
        "public static final int BAD_ARG", "public static final int NONE", "public static final int O",
        "public KoblitzTauNaf(int)",
        "public int times(int,int)", "public int over(int,int)", "public boolean isPoint(int)", "public int points()",
        "public int next(int)", "public int add(int,int)", "public int negate(int)", "public int multiple(int,int)",
        "public int combine(int,int,int,int)", "public int order(int)", "public int half(int)",
        "public int halves(int)", "public int square(int)", "public int log(int,int)");

    public static void main(String[] args) {
        constants();
        face();
        privateNames();
        sameAnswersAllAlong();
        Check.end();
    }

    private static void constants() {
        Check.due("BAD_ARG", KoblitzTauNaf.BAD_ARG, -1);
        Check.due("NONE", KoblitzTauNaf.NONE, -4);
        Check.due("O", KoblitzTauNaf.O, 16384);
    }

    /** Their modifiers count too: the tests, having no package either, can use what a user of the class can't. */
    private static void face() {
        Stream<Member> members = Stream.of(
            TYPE.getDeclaredFields(), TYPE.getDeclaredConstructors(), TYPE.getDeclaredMethods()).flatMap(Arrays::stream);
        Set<String> seen = members.filter(member -> !isPrivate(member))
            .map(member -> member.toString().replace("KoblitzTauNaf.", ""))
            .collect(Collectors.toCollection(TreeSet::new));
        Check.due("the face is the document's, seen: " + seen, seen.equals(FACE), true);
        Check.due("public and final", Modifier.toString(TYPE.getModifiers()).equals("public final"), true);
        Check.due("nested classes", TYPE.getDeclaredClasses().length, 0);
    }

    private static void privateNames() {
        Set<String> open = Arrays.stream(TYPE.getMethods()).map(Method::getName).collect(Collectors.toSet());
        for (Method method : TYPE.getDeclaredMethods()) {
            boolean shared = isPrivate(method) && open.contains(method.getName());
            Check.due("private and named as a public one: " + method.getName(), shared, false);
        }
    }

    private static boolean isPrivate(Member member) {
        return Modifier.isPrivate(member.getModifiers());
    }

    /** One object through 512 calls, refused ones between answered ones, beside a second object on the other curve. */
    private static void sameAnswersAllAlong() {
        KoblitzTauNaf one = new KoblitzTauNaf(1);
        KoblitzTauNaf zero = new KoblitzTauNaf(0);
        for (int round = 0; round < 64; round++) {
            Check.due("points", one.points(), 142);
            Check.due("points", zero.points(), 116);
            Check.due("add", one.add(0, 348), -1, 0, 348);
            Check.due("add", zero.add(0, 128), -1, 0, 128);
            Check.due("order", one.order(348), 142, 348);
            Check.due("order", zero.order(128), 4, 128);
            Check.due("half", one.half(1), -4, 1);
            Check.due("half", zero.half(128), -4, 128);
            Check.due("multiple", one.multiple(1000001, 348), -1, 1000001, 348);
            Check.due("multiple", zero.multiple(-1000001, 128), -1, -1000001, 128);
            Check.due("log", one.log(348, 469), 4, 348, 469);
            Check.due("log", zero.log(128, 1), 2, 128, 1);
            Check.due("over", one.over(5, 0), -1, 5, 0);
            Check.due("over", zero.over(5, 0), -1, 5, 0);
            Check.due("next", one.next(400), 469, 400);
            Check.due("next", zero.next(130), 1553, 130);
        }
    }
}
