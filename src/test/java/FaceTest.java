import java.lang.reflect.Constructor;
import java.lang.reflect.Field;
import java.lang.reflect.Method;
import java.lang.reflect.Modifier;
import java.nio.file.Files;
import java.nio.file.Path;
import java.util.Arrays;
import java.util.List;
import java.util.Set;
import java.util.TreeSet;

/** The public face, and the rules of LANGUAGE.md that can be seen from outside or in the source. */
public final class FaceTest {
    private static final Due due = new Due("FaceTest");
    private static final List<String> FACE = List.of("feed(int)", "tell()", "fault()", "told(int)",
            "tiling(int,int)", "who(int,int)", "gap(int)", "shared(int)", "necklaces(int,int)",
            "kin(int)", "steady(int,int)", "strike(int)", "even(int)", "turn(int)", "over()", "behind()",
            "stretch(int)", "twice()", "cycle(int)", "drift(int)", "undo(int)", "hear(int,boolean)",
            "moves()", "listen()", "forget()", "seed(int)", "keep(int)", "goBack(int)");
    private static final List<String> CONSTANTS = List.of("NONE", "UNKNOWN", "OUTSIDE", "NOT", "FULL");
    private static final int MOST_LINES = 60;
    private static final List<String> RULED_OUT = List.of("throw", "try", "catch", "synchronized",
            "assert", "import", "package", "protected", "volatile", "native", "Exception");

    public static void main(String[] args) throws Exception {
        methods();
        constants();
        classesInside();
        source(Files.readString(Path.of(args[0])));
        due.end();
    }

    private static void methods() {
        due.holds("the class is public and final", TilingBeats.class.getModifiers()
                == (Modifier.PUBLIC | Modifier.FINAL));
        Set<String> seen = new TreeSet<>();
        for (Method method : TilingBeats.class.getDeclaredMethods()) {
            if (!Modifier.isPrivate(method.getModifiers())) {
                due.holds(method + " is public, of objects, and answers an int",
                        method.getModifiers() == Modifier.PUBLIC && method.getReturnType() == int.class);
                String takes = Arrays.toString(method.getParameterTypes());
                seen.add(method.getName() + "(" + takes.substring(1, takes.length() - 1).replace(" ", "") + ")");
            } else {
                due.holds(method + " bears no public name", FACE.stream()
                        .noneMatch(call -> call.startsWith(method.getName() + "(")));
            }
        }
        due.holds("the methods are " + seen, seen.equals(new TreeSet<>(FACE)));
        for (Constructor<?> made : TilingBeats.class.getDeclaredConstructors()) {
            due.holds("one constructor", Modifier.isPublic(made.getModifiers()) && made.getParameterCount() == 0);
        }
    }

    private static void constants() throws Exception {
        Set<String> seen = new TreeSet<>();
        for (Field field : TilingBeats.class.getDeclaredFields()) {
            if (!Modifier.isPrivate(field.getModifiers())) {
                seen.add(field.getName());
                due.holds(field + " is a constant", field.getModifiers()
                        == (Modifier.PUBLIC | Modifier.STATIC | Modifier.FINAL) && field.getType() == int.class);
            }
        }
        due.holds("the constants are " + seen, seen.equals(new TreeSet<>(CONSTANTS)));
        due.is("NONE", TilingBeats.NONE, -1);
        due.is("UNKNOWN", TilingBeats.UNKNOWN, -1000000001);
        due.is("OUTSIDE", TilingBeats.OUTSIDE, -1000000002);
        due.is("NOT", TilingBeats.NOT, -1000000003);
        due.is("FULL", TilingBeats.FULL, -1000000004);
    }

    private static void classesInside() {
        Class<?>[] inside = TilingBeats.class.getDeclaredClasses();
        due.holds("at most twelve classes", inside.length <= 11);
        for (Class<?> kind : inside) {
            due.holds(kind + " is static", Modifier.isStatic(kind.getModifiers()));
            due.holds(kind + " is not seen from outside",
                    !Modifier.isPublic(kind.getModifiers()) && !Modifier.isProtected(kind.getModifiers()));
            for (Field field : kind.getDeclaredFields()) {
                due.holds(field + " holds no state of all", !Modifier.isStatic(field.getModifiers())
                        || Modifier.isFinal(field.getModifiers()));
            }
            for (Method method : kind.getDeclaredMethods()) {
                due.holds(method + " bears no public name", FACE.stream()
                        .noneMatch(call -> call.startsWith(method.getName() + "(")));
                due.holds(method + " takes at most seven", method.getParameterCount() <= 7);
            }
        }
    }

    private static void source(String text) {
        String code = text.replaceAll("(?s)/\\*.*?\\*/", " ").replaceAll("//[^\n]*", " ");
        for (String word : RULED_OUT) {
            due.holds("no word '" + word + "'", !code.matches("(?s).*\\b" + word + "\\b.*"));
        }
        for (String sign : List.of("->", "::", "@", "Exact", "System.", "Math.random", "\"")) {
            due.holds("no " + sign, !code.contains(sign));
        }
        due.holds("signs 1 to 127 alone", text.chars().allMatch(sign -> sign > 0 && sign < 128));
        methodsAreShort(text.split("\n"));
    }

    /** A method ends with the first brace that stands as far in as its head. */
    private static void methodsAreShort(String[] lines) {
        int methods = 0;
        for (int from = 0; from < lines.length; from++) {
            if (lines[from].matches(" +(public|private) [^=]*\\) \\{")) {
                String end = lines[from].replaceAll("\\S.*", "") + "}";
                int to = from;
                while (to < lines.length && !lines[to].equals(end)) {
                    to++;
                }
                due.holds("line " + (from + 1) + ": the method is short", to - from < MOST_LINES);
                methods++;
            }
        }
        due.holds("methods were seen", methods > FACE.size());
    }
}
