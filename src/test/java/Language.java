import java.io.IOException;
import java.lang.reflect.Field;
import java.lang.reflect.Method;
import java.lang.reflect.Modifier;
import java.nio.file.Files;
import java.nio.file.Path;
import java.util.ArrayList;
import java.util.List;
import java.util.Set;
import java.util.regex.Pattern;

/** The rules of LANGUAGE.md that can be seen from the compiled class or from the words of its file. */
public final class Language {
    private static final Set<String> FACE = Set.of(
        "machines", "put", "rule", "slow", "at", "way", "letter", "behind", "same", "alike",
        "best", "from", "lost", "worst", "comes", "image", "restore", "count");
    private static final String[] BARRED = {
        "\\bthrow\\b", "\\bthrows\\b", "\\btry\\b", "\\bcatch\\b", "\\bsynchronized\\b", "\\bassert\\b", "->", "::",
        "\\w+Exact\\b", "\\bpackage\\b", "\\bimport (?!java\\.util\\.(Arrays|ArrayList|List);)", "\\bnull\\b",
        "\\bSystem\\.(?!arraycopy\\b)", "\\bObject\\b", "\\bThread\\b", "\\bRandom\\b"};

    private Language() {
    }

    public static void main(String[] args) throws IOException {
        dueTrue("at most twelve classes", allClasses().size() <= 12);
        for (Class<?> c : allClasses()) {
            shape(c);
        }
        words(Files.readString(Path.of(System.getProperty("source"))));
        Check.finish();
    }

    private static void dueTrue(String what, boolean holds) {
        Check.due(what, holds ? 1 : 0, 1);
    }

    private static List<Class<?>> allClasses() {
        List<Class<?>> all = new ArrayList<>(List.of(SumsForAll.class.getDeclaredClasses()));
        all.add(SumsForAll.class);
        return all;
    }

    private static void shape(Class<?> c) {
        dueTrue(c + " is static", c == SumsForAll.class || Modifier.isStatic(c.getModifiers()));
        dueTrue(c + " holds no class", c == SumsForAll.class || c.getDeclaredClasses().length == 0);
        int fields = 0;
        for (Field f : c.getDeclaredFields()) {
            boolean fixed = Modifier.isStatic(f.getModifiers());
            dueTrue(f + " is final if it is static", !fixed || Modifier.isFinal(f.getModifiers()));
            fields += fixed ? 0 : 1;
        }
        dueTrue(c + " has at most twenty fields", fields <= 20);
        for (Method m : c.getDeclaredMethods()) {
            dueTrue(m + " has at most seven parameters", m.getParameterCount() <= 7);
            boolean facing = c == SumsForAll.class && Modifier.isPublic(m.getModifiers());
            dueTrue(m + " bears no public name", facing || !FACE.contains(m.getName()));
        }
    }

    private static void words(String source) {
        String code = source.replaceAll("(?s)/\\*.*?\\*/", " ").replaceAll("//[^\n]*", " ");
        for (String barred : BARRED) {
            dueTrue("no " + barred, !Pattern.compile(barred).matcher(code).find());
        }
        dueTrue("signs 1 to 127", code.chars().allMatch(s -> s >= 1 && s <= 127));
        methodLengths(code.split("\n"));
    }

    /** A method begins at a line that ends with an opening brace behind a head, and ends at the brace below it. */
    private static void methodLengths(String[] lines) {
        for (int i = 0; i < lines.length; i++) {
            if (!lines[i].matches("( {4}| {8})(\\w+ )*\\w+(\\[\\])? ?\\w*\\([^()]*\\) \\{")
                || lines[i].matches(" *(if|for|while|switch)\\b.*")) {
                continue;
            }
            String end = lines[i].replaceAll("\\S.*", "") + "}";
            int last = i;
            while (last < lines.length && !lines[last].equals(end)) {
                last++;
            }
            dueTrue("short: " + lines[i].trim(), last - i < 60);
        }
    }
}
