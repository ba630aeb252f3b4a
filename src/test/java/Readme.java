import java.io.IOException;
import java.lang.reflect.Method;
import java.lang.reflect.Modifier;
import java.nio.file.Files;
import java.nio.file.Path;
import java.util.Arrays;
import java.util.List;
import java.util.regex.Matcher;
import java.util.regex.Pattern;
import java.util.stream.Stream;

/** README.md says what is so: its example answers as it says, and it names every call and every test, no others. */
public final class Readme {
    private static final Pattern CALL = Pattern.compile("x\\.(\\w+)\\(([-0-9, ]+)\\); +// (-?\\d+)(:.*)?");
    private static final Pattern SIGNATURE = Pattern.compile("`(\\w+)\\(([a-z, ]+)\\)`");
    private static final Pattern TEST = Pattern.compile("`(\\w+\\.java)`");

    private Readme() {
    }

    public static void main(String[] args) throws IOException, ReflectiveOperationException {
        String page = Files.readString(Path.of("README.md"));
        example(page.lines().filter(l -> l.startsWith("x.")).toList());
        calls(page.lines().filter(l -> l.startsWith("| `")).toList());
        tests(page.lines().filter(l -> l.startsWith("- `")).toList());
        Check.finish();
    }

    private static void dueTrue(String what, boolean holds) {
        Check.due("README.md: " + what, holds ? 1 : 0, 1);
    }

    private static void example(List<String> lines) throws ReflectiveOperationException {
        dueTrue("has an example", lines.size() > 0);
        SumsForAll x = new SumsForAll();
        for (String line : lines) {
            Matcher m = CALL.matcher(line);
            boolean told = m.matches();
            dueTrue("tells an answer: " + line, told);
            if (told) {
                Check.due("README.md: " + line, answer(x, m.group(1), m.group(2).split(", ")), Integer.parseInt(m.group(3)));
            }
        }
    }

    private static int answer(SumsForAll x, String name, String[] numbers) throws ReflectiveOperationException {
        Class<?>[] types = new Class<?>[numbers.length];
        Arrays.fill(types, int.class);
        Object[] values = Stream.of(numbers).map(Integer::valueOf).toArray();
        return (int) SumsForAll.class.getMethod(name, types).invoke(x, values);
    }

    private static void calls(List<String> lines) {
        List<String> named = lines.stream().map(l -> l.split("\\|")[1]).flatMap(cell -> SIGNATURE.matcher(cell).results())
            .map(r -> r.group(1) + " " + r.group(2).split(", ").length).sorted().toList();
        List<String> there = Stream.of(SumsForAll.class.getDeclaredMethods())
            .filter(m -> Modifier.isPublic(m.getModifiers())).map(Readme::named).sorted().toList();
        dueTrue("names the calls " + there + ": " + named, named.equals(there));
    }

    private static String named(Method m) {
        return m.getName() + " " + m.getParameterCount();
    }

    private static void tests(List<String> lines) throws IOException {
        List<String> named = lines.stream().flatMap(l -> TEST.matcher(l).results()).map(r -> r.group(1)).sorted().toList();
        try (Stream<Path> files = Files.list(Path.of("src/test/java"))) {
            List<String> there = files.map(f -> f.getFileName().toString()).sorted().toList();
            dueTrue("names the tests " + there + ": " + named, named.equals(there));
        }
    }
}
