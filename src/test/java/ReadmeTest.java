import java.lang.reflect.Method;
import java.lang.reflect.Modifier;
import java.nio.file.Files;
import java.nio.file.Path;
import java.util.List;
import java.util.Set;
import java.util.TreeSet;
import java.util.regex.Matcher;
import java.util.regex.Pattern;
import javax.tools.ToolProvider;

/** What README.md shows: its code is compiled and run, each call must answer as told, and no call is left out. */
public final class ReadmeTest {
    private static final Pattern BLOCK = Pattern.compile("(?s)```java\n(.*?)```");
    private static final Pattern ANSWERED = Pattern.compile("^(w\\..*\\));\\s*// (-?[0-9]+|true|false)\\b.*$");

    public static void main(String[] args) throws Exception {
        String page = Files.readString(Path.of("README.md"));
        List<String> blocks = BLOCK.matcher(page).results().map(m -> m.group(1)).toList();
        if (blocks.size() != 2) {
            System.out.println("README.md has the helper and the example: " + blocks.size());
            System.exit(1);
        }
        int wrong = missing(page) + answer(blocks.get(0), blocks.get(1));
        System.out.println("README.md: " + wrong + " not as due");
        System.exit(wrong == 0 ? 0 : 1);
    }

    private static int missing(String page) {
        Set<String> left = new TreeSet<>();
        for (Method m : WaterStair.class.getDeclaredMethods()) {
            if (Modifier.isPublic(m.getModifiers()) && !page.contains("`" + m.getName() + "`")) {
                left.add(m.getName());
            }
        }
        left.forEach(name -> System.out.println("README.md does not tell of " + name));
        return left.size();
    }

    /** How many calls of the example answer something else. */
    private static int answer(String helper, String example) throws Exception {
        StringBuilder body = new StringBuilder();
        int calls = 0;
        for (String line : example.split("\n")) {
            Matcher m = ANSWERED.matcher(line);
            if (m.matches()) {
                calls++;
                String quoted = m.group(1).replace("\"", "\\\"");
                body.append("wrong += due(\"" + quoted + "\", String.valueOf(" + m.group(1) + "), \"" + m.group(2) + "\");\n");
            } else {
                body.append(line).append("\n");
            }
        }
        Path dir = Files.createTempDirectory("readme");
        Path source = dir.resolve("ReadmeExample.java");
        Files.writeString(source, "public final class ReadmeExample {\n" + helper
                + "static int due(String call, String got, String want) { if (got.equals(want)) return 0;"
                + " System.out.println(call + \" answered \" + got + \", told is \" + want); return 1; }\n"
                + "public static int wrong() { int wrong = 0;\n" + body + "return wrong; }\n}\n");
        try {
            return calls < 10 ? 1 : compiledAndRun(dir, source);
        } finally {
            Files.deleteIfExists(source);
            Files.deleteIfExists(dir.resolve("ReadmeExample.class"));
            Files.deleteIfExists(dir);
        }
    }

    private static int compiledAndRun(Path dir, Path source) throws Exception {
        int bad = ToolProvider.getSystemJavaCompiler().run(null, null, null, "-proc:none", "-d", dir.toString(),
                "-cp", System.getProperty("java.class.path"), source.toString());
        if (bad != 0) {
            return 1;
        }
        try (var loader = new java.net.URLClassLoader(new java.net.URL[] {dir.toUri().toURL()})) {
            return (int) loader.loadClass("ReadmeExample").getMethod("wrong").invoke(null);
        }
    }
}
