import java.lang.reflect.Method;
import java.nio.file.Files;
import java.nio.file.Path;
import java.util.regex.Matcher;
import java.util.regex.Pattern;

/** The calls of README.md, in their order on one object, each with the answer that README.md tells. */
public final class ReadmeTest {
    private static final Pattern CALL = Pattern.compile("x\\.(\\w+)\\((.*)\\); +// (-?\\d+|true|false)(:.*)?");

    public static void main(String[] args) throws Exception {
        NineCopies x = new NineCopies();
        int calls = 0;
        for (String line : Files.readAllLines(Path.of("README.md"))) {
            Matcher found = CALL.matcher(line);
            if (found.matches()) {
                calls++;
                Check.same(line, answer(x, found.group(1), found.group(2)), number(found.group(3)));
            } else {
                Check.no("a call without an answer: " + line, line.startsWith("x."));
            }
        }
        Check.yes("README.md shows how to use the class", calls > 30);
        Check.finish("ReadmeTest");
    }

    private static long answer(NineCopies x, String name, String told) throws Exception {
        for (Method method : NineCopies.class.getMethods()) {
            if (method.getName().equals(name)) {
                Class<?>[] types = method.getParameterTypes();
                String[] words = told.isEmpty() ? new String[0] : told.split(", ");
                Object[] given = new Object[types.length];
                for (int i = 0; i < types.length; i++) {
                    int value = (int) number(words[i]);
                    given[i] = types[i] == boolean.class ? (Object) (value == 1) : (Object) value;
                }
                Object answer = method.invoke(x, given);
                return number(answer.toString());
            }
        }
        throw new IllegalStateException("no call " + name);
    }

    /** A boolean counts 1 or 0. */
    private static long number(String word) {
        return switch (word) {
            case "true" -> 1;
            case "false" -> 0;
            default -> Long.decode(word);
        };
    }
}
