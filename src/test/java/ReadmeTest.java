import java.lang.reflect.Method;
import java.lang.reflect.Modifier;
import java.net.URL;
import java.net.URLClassLoader;
import java.nio.file.Files;
import java.nio.file.Path;
import java.util.Set;
import java.util.TreeSet;
import java.util.regex.Matcher;
import java.util.regex.Pattern;
import javax.tools.JavaCompiler;
import javax.tools.ToolProvider;

/** The Java that README.md shows compiles, gives the answers that stand behind its calls, and leaves out no method. */
public final class ReadmeTest {
    private static final Pattern BLOCK = Pattern.compile("(?s)```java\n(.*?)```");
    private static final Pattern SHOWN = Pattern.compile("^(x\\.\\w+\\([^;\"]*\\)); +// (-?[0-9]+): .+$");
    private static final Pattern CALL = Pattern.compile("\\bx\\.(\\w+)\\(");
    /** The one call that is shown without its answer, in a loop over letters. */
    private static final String FED = "    x.feed(letter);";

    public static void main(String[] args) throws Exception {
        String shown = blocks(Files.readString(Path.of("README.md")));
        everyCallHasItsAnswer(shown);
        everyMethodIsShown(shown);
        Path build = Files.createTempDirectory("readme");
        try {
            run(build, shown);
        } finally {
            clear(build);
        }
        Due.end("ReadmeTest");
    }

    private static String blocks(String readme) {
        StringBuilder all = new StringBuilder();
        Matcher m = BLOCK.matcher(readme);
        while (m.find()) {
            all.append(m.group(1));
        }
        Due.holds("README.md shows Java", all.length() > 0);
        return all.toString();
    }

    /** A call whose answer is told in another form would be run, but not looked at. */
    private static void everyCallHasItsAnswer(String shown) {
        for (String line : shown.split("\n")) {
            if (CALL.matcher(line).find() && !line.equals(FED)) {
                Due.holds("\"" + line + "\" tells its answer", SHOWN.matcher(line).matches());
            }
        }
    }

    private static void everyMethodIsShown(String shown) {
        Set<String> names = new TreeSet<>();
        Matcher m = CALL.matcher(shown);
        while (m.find()) {
            names.add(m.group(1));
        }
        for (Method method : GoodsDownhill.class.getDeclaredMethods()) {
            if (Modifier.isPublic(method.getModifiers())) {
                Due.holds("README.md shows " + method.getName(), names.contains(method.getName()));
            }
        }
    }

    private static void run(Path build, String shown) throws Exception {
        Path source = build.resolve("ReadmeRun.java");
        Files.writeString(source, program(shown));
        JavaCompiler compiler = ToolProvider.getSystemJavaCompiler();
        int code = compiler.run(null, null, null, "-d", build.toString(), "-cp", System.getProperty("java.class.path"),
            source.toString());
        Due.due("the Java of README.md compiles", code, 0);
        if (code != 0) {
            return;
        }
        try (URLClassLoader loader = new URLClassLoader(new URL[] {build.toUri().toURL()})) {
            String[][] rows = (String[][]) loader.loadClass("ReadmeRun").getMethod("rows").invoke(null);
            for (String[] row : rows) {
                Due.due("README.md: " + row[0], Long.parseLong(row[1]), Long.parseLong(row[2]));
            }
            Due.holds("README.md shows answers", rows.length > 0);
        }
    }

    /** Rows of texts go over to this test: the loaded class can't see the tests' own classes, which have no package. */
    private static String program(String shown) {
        StringBuilder code = new StringBuilder("public class ReadmeRun {\npublic static String[][] rows() {\n");
        code.append("java.util.List<String[]> rows = new java.util.ArrayList<>();\n");
        for (String line : shown.split("\n")) {
            Matcher m = SHOWN.matcher(line);
            if (m.matches()) {
                code.append("rows.add(new String[] {\"").append(m.group(1)).append("\", String.valueOf(")
                    .append(m.group(1)).append("), \"").append(m.group(2)).append("\"});\n");
            } else {
                code.append(line).append('\n');
            }
        }
        return code.append("return rows.toArray(new String[0][]);\n}\n}\n").toString();
    }

    private static void clear(Path build) throws Exception {
        for (String name : new String[] {"ReadmeRun.class", "ReadmeRun.java"}) {
            Files.deleteIfExists(build.resolve(name));
        }
        Files.delete(build);
    }
}
