import java.lang.reflect.Constructor;
import java.lang.reflect.Field;
import java.lang.reflect.Member;
import java.lang.reflect.Method;
import java.lang.reflect.Modifier;
import java.util.Set;
import java.util.TreeSet;

/** The face of the class is the document's, and no other member can be seen from outside. */
public final class FaceTest {
    private static final Set<String> WANT = Set.of(
        "public static final int ReversibleRope.BAD",
        "public static final int ReversibleRope.FULL",
        "public static final int ReversibleRope.NONE",
        "public ReversibleRope()",
        "public int ReversibleRope.insert(int,int)",
        "public int ReversibleRope.remove(int,int)",
        "public int ReversibleRope.length()",
        "public int ReversibleRope.get(int)",
        "public boolean ReversibleRope.reverse(int,int)",
        "public boolean ReversibleRope.add(int,int,int)",
        "public boolean ReversibleRope.move(int,int,int)",
        "public int ReversibleRope.twice(int,int)",
        "public int ReversibleRope.sum(int,int)",
        "public int ReversibleRope.greatest(int,int)",
        "public int ReversibleRope.smallest(int,int)",
        "public int ReversibleRope.firstAtLeast(int,int)",
        "public int ReversibleRope.clear()");

    public static void main(String[] args) {
        Set<String> got = new TreeSet<>();
        for (Field field : ReversibleRope.class.getDeclaredFields()) {
            addIfSeen(got, field, field.toString());
        }
        for (Constructor<?> constructor : ReversibleRope.class.getDeclaredConstructors()) {
            addIfSeen(got, constructor, constructor.toString());
        }
        for (Method method : ReversibleRope.class.getDeclaredMethods()) {
            addIfSeen(got, method, method.toString());
        }
        for (String member : WANT) {
            Check.due("there: " + member, got.contains(member), true);
        }
        for (String member : got) {
            Check.due("in the document: " + member, WANT.contains(member), true);
        }
        int modifiers = ReversibleRope.class.getModifiers();
        Check.due("public final", modifiers, Modifier.PUBLIC | Modifier.FINAL);
        Check.due("BAD", ReversibleRope.BAD, -1);
        Check.due("FULL", ReversibleRope.FULL, -2);
        Check.due("NONE", ReversibleRope.NONE, -3);
        Check.end();
    }

    private static void addIfSeen(Set<String> got, Member member, String text) {
        if (!Modifier.isPrivate(member.getModifiers())) {
            got.add(text);
        }
    }
}
