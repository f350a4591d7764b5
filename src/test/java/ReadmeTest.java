import java.io.IOException;
import java.lang.reflect.Method;
import java.nio.file.Files;
import java.nio.file.Path;
import java.util.Arrays;
import java.util.List;
import java.util.regex.Matcher;
import java.util.regex.Pattern;

/** Makes the calls of the example in README.md and looks whether each answers what the line says. */
public final class ReadmeTest {
    private static final Pattern LINE = Pattern.compile("x\\.(\\w+)\\(([-\\d, ]*)\\); +// (true|false|-?\\d+)(:.*)?");
    private static final Checks c = new Checks();

    public static void main(String[] args) throws Exception {
        c.part("README.md");
        List<String> lines = example();
        c.due("the first line makes the object", lines.get(0).equals("WalkerPlan x = new WalkerPlan();"), true);
        c.due("the example has calls", lines.size() > 1, true);
        WalkerPlan x = new WalkerPlan();
        for (String line : lines.subList(1, lines.size())) {
            Matcher parts = LINE.matcher(line);
            c.due("the form of " + line, parts.matches(), true);
            if (parts.matches()) c.same(line, List.of(answer(x, parts)), List.of(parts.group(3)));
        }
        c.end();
    }

    private static List<String> example() throws IOException {
        List<String> all = Files.readAllLines(Path.of("README.md"));
        int first = all.indexOf("```java") + 1;
        int length = all.subList(first, all.size()).indexOf("```");
        return all.subList(first, first + length);
    }

    private static String answer(WalkerPlan x, Matcher parts) throws ReflectiveOperationException {
        Object[] values = Arrays.stream(parts.group(2).split(", *")).filter(v -> !v.isEmpty()).map(Integer::valueOf).toArray();
        Class<?>[] types = new Class<?>[values.length];
        Arrays.fill(types, int.class);
        Method call = WalkerPlan.class.getMethod(parts.group(1), types);
        return String.valueOf(call.invoke(x, values));
    }
}
