import java.lang.reflect.Constructor;
import java.lang.reflect.Field;
import java.lang.reflect.Method;
import java.lang.reflect.Modifier;
import java.util.Arrays;
import java.util.Set;
import java.util.TreeSet;

/** The public face: the constants, the constructor and the methods of the document and no more. */
public final class FaceTest {
    public static void main(String[] args) {
        Due.is("BAD_KIND", ShrinkRanker.BAD_KIND, -1);
        Due.is("BAD_NUMBER", ShrinkRanker.BAD_NUMBER, -2);
        Due.is("FULL", ShrinkRanker.FULL, -3);
        Due.is("NONE", ShrinkRanker.NONE, -4);
        Due.is("the class is public and final",
            ShrinkRanker.class.getModifiers() == (Modifier.PUBLIC | Modifier.FINAL), true);

        Set<String> want = new TreeSet<>(Arrays.asList(
            "public static final int ShrinkRanker.BAD_KIND",
            "public static final int ShrinkRanker.BAD_NUMBER",
            "public static final int ShrinkRanker.FULL",
            "public static final int ShrinkRanker.NONE",
            "public ShrinkRanker()",
            "public int ShrinkRanker.condition(int,int,int)",
            "public int ShrinkRanker.drop()",
            "public int ShrinkRanker.push(int)",
            "public void ShrinkRanker.empty()",
            "public int ShrinkRanker.load(int)",
            "public int ShrinkRanker.failing()",
            "public int ShrinkRanker.failingOf(int)",
            "public boolean ShrinkRanker.fails()",
            "public int ShrinkRanker.rank()",
            "public int ShrinkRanker.extending()",
            "public int ShrinkRanker.leastLength()",
            "public int ShrinkRanker.least(int)",
            "public int ShrinkRanker.element(int)"));
        Set<String> got = new TreeSet<>();
        for (Field f : ShrinkRanker.class.getDeclaredFields()) {
            addUnlessPrivate(got, f.getModifiers(), f.toString());
        }
        for (Constructor<?> c : ShrinkRanker.class.getDeclaredConstructors()) {
            addUnlessPrivate(got, c.getModifiers(), c.toString());
        }
        for (Method m : ShrinkRanker.class.getDeclaredMethods()) {
            addUnlessPrivate(got, m.getModifiers(), m.toString());
        }
        for (String member : want) {
            Due.is("there is " + member, got.contains(member), true);
        }
        for (String member : got) {
            Due.is("the document has " + member, want.contains(member), true);
        }
        Due.end();
    }

    private static void addUnlessPrivate(Set<String> members, int modifiers, String text) {
        if (!Modifier.isPrivate(modifiers)) {
            members.add(text);
        }
    }
}
