import java.lang.reflect.Constructor;
import java.lang.reflect.Field;
import java.lang.reflect.Member;
import java.lang.reflect.Method;
import java.lang.reflect.Modifier;
import java.util.Arrays;
import java.util.TreeSet;

/** The public face: all that the document names, with its types, and nothing else. */
public final class FaceTest {
    private static final String[] DUE = {
        "public static final int RouteSuite.BAD",
        "public static final int RouteSuite.FULL",
        "public static final int RouteSuite.NONE",
        "public RouteSuite()",
        "public int RouteSuite.add(int,int,int)",
        "public int RouteSuite.remove(int)",
        "public int RouteSuite.change(int,int)",
        "public int RouteSuite.roads()",
        "public int RouteSuite.distance(int,int,int)",
        "public boolean RouteSuite.agree(int,int)",
        "public int RouteSuite.between(int,int)",
        "public int RouteSuite.around(int,int)",
        "public int RouteSuite.detour(int)",
        "public int RouteSuite.farthest(int)",
        "public int RouteSuite.widest()",
        "public int RouteSuite.needless()",
        "public int RouteSuite.over(int,int,int)",
        "public boolean RouteSuite.sound()",
    };
    private static final Check CHECK = new Check();
    private static final TreeSet<String> FOUND = new TreeSet<>();

    public static void main(String[] args) {
        for (Field field : RouteSuite.class.getDeclaredFields()) {
            note(field, field.toString());
        }
        for (Constructor<?> constructor : RouteSuite.class.getDeclaredConstructors()) {
            note(constructor, constructor.toString());
        }
        for (Method method : RouteSuite.class.getDeclaredMethods()) {
            note(method, method.toString());
        }
        for (String member : DUE) {
            CHECK.due("there is " + member, FOUND.contains(member), true);
        }
        for (String member : FOUND) {
            CHECK.due("the document names " + member, Arrays.asList(DUE).contains(member), true);
        }
        int kind = RouteSuite.class.getModifiers();
        CHECK.due("public and final", Modifier.isPublic(kind) && Modifier.isFinal(kind), true);
        CHECK.finish();
    }

    private static void note(Member member, String text) {
        if (!Modifier.isPrivate(member.getModifiers())) {
            FOUND.add(text);
        }
    }
}
