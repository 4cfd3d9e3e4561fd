import java.lang.reflect.Method;
import java.nio.file.Files;
import java.nio.file.Path;
import java.util.Map;
import java.util.regex.Matcher;
import java.util.regex.Pattern;

/** The run of calls in README.md answers what stands behind each of them. */
public final class ReadmeTest {
    private static final Due due = new Due("ReadmeTest");
    private static final Pattern TEXT = Pattern.compile("for \\(char letter : \"(.*)\"\\.toCharArray.*");
    private static final Pattern CALL = Pattern.compile("x\\.(\\w+)\\((.*)\\); +// (-?\\w+): .*");
    private static final Map<String, Integer> NAMED = Map.of("NONE", TilingBeats.NONE,
            "UNKNOWN", TilingBeats.UNKNOWN, "OUTSIDE", TilingBeats.OUTSIDE, "NOT", TilingBeats.NOT,
            "FULL", TilingBeats.FULL);

    public static void main(String[] args) throws Exception {
        String[] parts = Files.readString(Path.of("README.md")).split("```(java)?\n");
        due.is("parts of README.md around its one run of calls", parts.length, 3);
        TilingBeats x = new TilingBeats();
        int calls = 0;
        for (String line : parts[1].split("\n")) {
            Matcher text = TEXT.matcher(line);
            Matcher call = CALL.matcher(line);
            if (text.matches()) {
                Due.feed(x, text.group(1));
            } else if (call.matches()) {
                String want = call.group(3);
                due.is(line, answer(x, call.group(1), call.group(2)),
                        NAMED.containsKey(want) ? NAMED.get(want) : Integer.parseInt(want));
                calls++;
            } else {
                due.holds("'" + line + "' is no call that can be read", isLeftOut(line));
            }
        }
        due.holds("some calls were read", calls > 9);
        everyCallIsNamed(parts[2]);
        due.end();
    }

    private static boolean isLeftOut(String line) {
        return line.startsWith("TilingBeats x = new") || line.equals("    x.feed(letter);") || line.equals("}");
    }

    private static int answer(TilingBeats x, String name, String list) throws Exception {
        String[] given = list.isEmpty() ? new String[0] : list.split(", ");
        for (Method method : TilingBeats.class.getMethods()) {
            if (method.getName().equals(name) && method.getParameterCount() == given.length) {
                Object[] arguments = new Object[given.length];
                for (int i = 0; i < given.length; i++) {
                    boolean number = method.getParameterTypes()[i] == int.class;
                    arguments[i] = number ? (Object) Integer.valueOf(given[i]) : Boolean.valueOf(given[i]);
                }
                return (int) method.invoke(x, arguments);
            }
        }
        throw new IllegalStateException("no call " + name + " with " + given.length + " arguments");
    }

    private static void everyCallIsNamed(String words) {
        for (Method method : TilingBeats.class.getMethods()) {
            if (method.getDeclaringClass() == TilingBeats.class) {
                due.holds(method.getName() + " is told of", words.contains("`" + method.getName() + "("));
            }
        }
    }
}
