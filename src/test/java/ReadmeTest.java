import java.lang.reflect.Method;
import java.nio.file.Files;
import java.nio.file.Path;
import java.util.Set;
import java.util.TreeSet;
import java.util.regex.Matcher;
import java.util.regex.Pattern;

/** The calls of README.md's example answer what stands beside them. */
final class ReadmeTest {
    private static final Pattern CALL =
            Pattern.compile("vectors\\.(\\w+)\\(([-0-9, ]*)\\);\\s+// (-?\\d+).*");

    public static void main(String[] args) throws Exception {
        ShortVectors vectors = new ShortVectors();
        Set<String> shown = new TreeSet<>();
        for (String line : Files.readAllLines(Path.of("README.md"))) {
            Matcher call = CALL.matcher(line);
            boolean matches = call.matches();
            Check.due("form of \"" + line + "\"", line.startsWith("vectors.") ? 1 : 0,
                    matches ? 1 : 0);
            if (matches) {
                shown.add(call.group(1));
                Check.due(line, Integer.parseInt(call.group(3)),
                        answer(vectors, call.group(1), call.group(2)));
            }
        }
        Check.due("how many of the nine methods are shown", 9, shown.size());
        Check.end();
    }

    private static int answer(ShortVectors vectors, String name, String list) throws Exception {
        String[] words = list.isEmpty() ? new String[0] : list.split(", ");
        Class<?>[] types = new Class<?>[words.length];
        Object[] numbers = new Object[words.length];
        for (int k = 0; k < words.length; k++) {
            types[k] = int.class;
            numbers[k] = Integer.parseInt(words[k]);
        }
        Method method = ShortVectors.class.getMethod(name, types);
        return (Integer) method.invoke(vectors, numbers);
    }
}
