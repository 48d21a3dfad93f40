import java.lang.reflect.Method;
import java.lang.reflect.Modifier;
import java.nio.file.Files;
import java.nio.file.Path;
import java.util.List;
import java.util.Set;
import java.util.TreeSet;
import java.util.regex.Matcher;
import java.util.regex.Pattern;

/**
 * The calls that README.md shows: makes each of them, in the order of its Java blocks, and compares
 * the answer with the one that stands behind it. Runs at the top of the project.
 */
public final class ReadmeTest {
    private static final String NEW_OBJECT = "ShrinkRanker x = new ShrinkRanker();";
    private static final Pattern CALL =
        Pattern.compile("x\\.(\\w+)\\(((?:-?\\d+(?:, -?\\d+)*)?)\\); +// ([-\\w]+): .+");
    /** A call with its numbers outside the blocks would be one that nothing here looks at. */
    private static final Pattern CALL_IN_TEXT = Pattern.compile("\\w\\( *-?\\d");

    private static final Set<String> SHOWN = new TreeSet<>();
    private static ShrinkRanker object;

    public static void main(String[] args) throws Exception {
        List<String> lines = Files.readAllLines(Path.of("README.md"));
        boolean inBlock = false;
        Due.sentence("README.md: the calls that it shows answer what it says");
        for (int i = 0; i < lines.size(); i++) {
            String at = "line " + (i + 1) + ": " + lines.get(i);
            if (lines.get(i).startsWith("```")) {
                inBlock = !inBlock;
                object = null;
                Due.is(at + " (opens a Java block)", lines.get(i).equals("```java"), inBlock);
            } else if (inBlock) {
                look(at, lines.get(i));
            } else {
                Due.is(at + " (a call outside the blocks)",
                    CALL_IN_TEXT.matcher(lines.get(i)).find(), false);
            }
        }
        Due.is("the last block is closed", inBlock, false);
        everyCallIsShown();
        Due.end();
    }

    private static void look(String at, String line) throws Exception {
        if (line.equals(NEW_OBJECT)) {
            object = new ShrinkRanker();
            return;
        }
        Matcher call = CALL.matcher(line);
        boolean readable = call.matches() && object != null;
        Due.is(at + " (a call on an object, with its answer)", readable, true);
        if (!readable) {
            return;
        }
        Method method = methodOf(call.group(1));
        Due.is(at + " (the class has such a call)", method != null, true);
        if (method == null) {
            return;
        }
        SHOWN.add(method.getName());
        String got = String.valueOf(method.invoke(object, numbersIn(call.group(2))));
        String due = call.group(3);
        Due.is(at + " (the class answers " + got + ")", got.equals(valueOf(due, method)), true);
    }

    private static Method methodOf(String name) {
        for (Method method : ShrinkRanker.class.getDeclaredMethods()) {
            if (method.getName().equals(name) && Modifier.isPublic(method.getModifiers())) {
                return method;
            }
        }
        return null;
    }

    private static Object[] numbersIn(String text) {
        if (text.isEmpty()) {
            return new Object[0];
        }
        return Pattern.compile(", ").splitAsStream(text).map(Integer::valueOf).toArray();
    }

    /** What README.md says as the answer, written as the answer of such a call is. */
    private static String valueOf(String due, Method method) {
        boolean isVoid = method.getReturnType() == void.class;
        if (isVoid || due.equals("nothing")) {
            return isVoid && due.equals("nothing") ? "null" : "not an answer";
        }
        switch (due) {
            case "BAD_KIND":
                return String.valueOf(ShrinkRanker.BAD_KIND);
            case "BAD_NUMBER":
                return String.valueOf(ShrinkRanker.BAD_NUMBER);
            case "FULL":
                return String.valueOf(ShrinkRanker.FULL);
            case "NONE":
                return String.valueOf(ShrinkRanker.NONE);
            default:
                return due;
        }
    }

    private static void everyCallIsShown() {
        Due.sentence("README.md: it says how to use the class, every call of it");
        for (Method method : ShrinkRanker.class.getDeclaredMethods()) {
            if (Modifier.isPublic(method.getModifiers())) {
                String name = method.getName();
                Due.is("there is a line with " + name, SHOWN.contains(name), true);
            }
        }
    }
}
