import java.nio.file.Files;
import java.nio.file.Path;
import java.lang.reflect.Method;
import java.lang.reflect.Modifier;
import java.net.URL;
import java.net.URLClassLoader;
import java.util.Map;
import java.util.Set;
import java.util.TreeMap;
import java.util.TreeSet;
import java.util.regex.Matcher;
import java.util.regex.Pattern;

/** What README.md says: its example is compiled and played, its rows name each call and what it refuses. */
public final class ReadmeTest {
    private static final Check check = new Check("ReadmeTest");
    private static final Pattern CALL = Pattern.compile("^\\s*x\\.(\\w+\\([^)]*\\));\\s*// (-?\\d+|[A-Z]+)(\\s.*)?$");
    private static final Pattern ROW = Pattern.compile("(?m)^\\|[^|\n]*\\| `(\\w+)\\([^)]*\\)` \\|[^|\n]*\\|([^|\n]*)\\|$");
    private static final Pattern PROMISE = Pattern.compile("## Promise \\d+: (\\w+)\n\n`[^`]*`:([^\n]*)");

    public static void main(String[] args) throws Exception {
        String readme = Files.readString(Path.of("README.md"));
        String example = example(readme);
        Map<String, Set<String>> rows = refusals(ROW, readme);
        for (String name : face()) {
            check.due("the example has " + name, example.contains("x." + name + "(") ? 1 : 0, 1);
            check.due("a row tells of " + name, rows.containsKey(name) ? 1 : 0, 1);
        }
        check.due("rows", rows.size(), face().size());
        asTheDocument(rows);
        play(example);
        check.end();
    }

    private static Set<String> face() {
        Set<String> names = new TreeSet<>();
        for (Method m : DumplingPolls.class.getDeclaredMethods()) {
            if (Modifier.isPublic(m.getModifiers())) {
                names.add(m.getName());
            }
        }
        return names;
    }

    private static String example(String readme) {
        int from = readme.indexOf("```java\n") + 8;
        return readme.substring(from, readme.indexOf("```", from));
    }

    private static Map<String, Set<String>> refusals(Pattern told, String text) {
        Map<String, Set<String>> refusals = new TreeMap<>();
        Matcher m = told.matcher(text);
        while (m.find()) {
            Set<String> words = new TreeSet<>();
            Matcher word = Pattern.compile("\\b(NO|BAD|STATE|FULL)\\b").matcher(m.group(2).replace("NO: BAD", "NO"));
            while (word.find()) {
                words.add(word.group());
            }
            refusals.put(m.group(1), words);
        }
        return refusals;
    }

    /** The rows refuse what the document's promises refuse. */
    private static void asTheDocument(Map<String, Set<String>> rows) throws Exception {
        Path document = Path.of("../shared/DOC.md");
        if (Files.exists(document)) {
            Map<String, Set<String>> promised = refusals(PROMISE, Files.readString(document));
            promised.keySet().retainAll(face());
            check.same("what README.md says is refused", rows.toString(), promised.toString());
        }
    }

    /** Each line with a call and its answer becomes one that counts whether it is so. */
    private static String counting(String example) {
        StringBuilder body = new StringBuilder();
        for (String line : example.split("\n")) {
            Matcher m = CALL.matcher(line);
            boolean answered = m.matches();
            check.due("an answer behind " + line, answered || !line.contains("//") ? 1 : 0, 1);
            if (answered) {
                String due = m.group(2).matches("[A-Z]+") ? "DumplingPolls." + m.group(2) : m.group(2);
                body.append("look.look(\"").append(line.strip().replace("\"", "'")).append("\", x.")
                    .append(m.group(1)).append(", ").append(due).append(");\n");
            } else {
                body.append(line).append("\n");
            }
        }
        return body.toString();
    }

    /** What the compiled example hands its answers to. */
    public interface Look {
        void look(String call, long got, long due);
    }

    private static void play(String example) throws Exception {
        Path folder = Files.createTempDirectory("readme");
        Path source = folder.resolve("Example.java");
        Files.writeString(source, "public class Example { public static void play(ReadmeTest.Look look) {\n"
            + counting(example) + "} }\n");
        int rc = new ProcessBuilder("javac", "-encoding", "UTF-8", "-cp", System.getProperty("java.class.path"),
            "-d", folder.toString(), source.toString()).inheritIO().start().waitFor();
        check.due("the example compiles", rc, 0);
        if (rc == 0) {
            try (URLClassLoader loader = new URLClassLoader(new URL[] {folder.toUri().toURL()})) {
                Look look = check::due;
                loader.loadClass("Example").getMethod("play", Look.class).invoke(null, look);
            }
        }
        try (var files = Files.list(folder)) {
            for (Path file : files.toList()) {
                Files.delete(file);
            }
        }
        Files.delete(folder);
    }
}
