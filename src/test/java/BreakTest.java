import java.io.ByteArrayOutputStream;
import java.io.IOException;
import java.io.OutputStream;
import java.net.URI;
import java.nio.file.Files;
import java.nio.file.Path;
import java.util.ArrayList;
import java.util.HashMap;
import java.util.LinkedHashSet;
import java.util.List;
import java.util.Map;
import java.util.Set;
import java.util.concurrent.ExecutorService;
import java.util.concurrent.Executors;
import java.util.concurrent.Future;
import java.util.concurrent.TimeUnit;
import java.util.concurrent.TimeoutException;
import javax.tools.ForwardingJavaFileManager;
import javax.tools.JavaCompiler;
import javax.tools.JavaFileManager;
import javax.tools.JavaFileObject;
import javax.tools.SimpleJavaFileObject;
import javax.tools.StandardJavaFileManager;
import javax.tools.ToolProvider;

/**
 * Each sentence's test fails if the sentence is broken: src/test/breaks.txt tells for each sentence changes of the
 * program that break it, and for each change the program is made anew and the sentence's test must fail.
 */
public final class BreakTest {
    private static final Path PROGRAM = Path.of("src/main/java/WaterStair.java");
    private static final Path BREAKS = Path.of("src/test/breaks.txt");
    private static final String[] TESTS = {"TextBoundaryTest", "TipBoundaryTest", "PlanBoundaryTest"};
    private static final int SECONDS = 20;

    public static void main(String[] args) throws Exception {
        String program = Files.readString(PROGRAM);
        List<Break> breaks = read(Files.readAllLines(BREAKS));
        List<String> wrong = new ArrayList<>(without(breaks));
        ExecutorService workers = Executors.newFixedThreadPool(Runtime.getRuntime().availableProcessors(), task -> {
            Thread thread = new Thread(task);
            thread.setDaemon(true);
            return thread;
        });
        List<Future<String>> answers = new ArrayList<>();
        for (Break b : breaks) {
            answers.add(workers.submit(() -> b.trouble(program)));
        }
        for (int i = 0; i < breaks.size(); i++) {
            String trouble = answerOf(answers.get(i));
            if (!trouble.isEmpty()) {
                wrong.add(breaks.get(i) + "\n    " + trouble);
            }
        }
        wrong.forEach(System.out::println);
        System.out.println(breaks.size() + " breaks of sentences, " + wrong.size() + " not as due");
        System.exit(wrong.isEmpty() ? 0 : 1);
    }

    /** Empty also for a program that does not come to its end: its test fails. */
    private static String answerOf(Future<String> answer) throws Exception {
        try {
            return answer.get(SECONDS, TimeUnit.SECONDS);
        } catch (TimeoutException e) {
            return "";
        }
    }

    /** Sentences that have no break, and breaks that have no sentence. */
    private static List<String> without(List<Break> breaks) {
        Set<String> sentences = new LinkedHashSet<>();
        for (Sentences test : List.of(new TextBoundaryTest(), new TipBoundaryTest(), new PlanBoundaryTest())) {
            sentences.addAll(test.found(null).keySet());
        }
        Set<String> broken = new LinkedHashSet<>();
        breaks.forEach(b -> broken.add(b.sentence));
        List<String> wrong = new ArrayList<>();
        sentences.stream().filter(s -> !broken.contains(s)).forEach(s -> wrong.add("no break of: " + s));
        broken.stream().filter(s -> !sentences.contains(s)).forEach(s -> wrong.add("no test of: " + s));
        return wrong;
    }

    /** A sentence, and below it of each change: @ where it begins to look, - what stands there, + what comes instead. */
    private static List<Break> read(List<String> lines) {
        List<Break> breaks = new ArrayList<>();
        String sentence = "";
        String where = "";
        String old = "";
        for (String line : lines) {
            if (line.startsWith("  @ ")) {
                where = line.substring(4);
            } else if (line.startsWith("  - ")) {
                old = line.substring(4);
            } else if (line.startsWith("  +")) {
                breaks.add(new Break(sentence, where, old, line.substring(3).trim()));
                where = "";
            } else if (!line.isBlank() && !line.startsWith("#")) {
                sentence = line;
            }
        }
        return breaks;
    }

    private record Break(String sentence, String where, String old, String instead) {
        /** Why this does not show that the sentence's test would fail; empty if it does. */
        String trouble(String program) throws Exception {
            int from = program.indexOf(where);
            int at = from < 0 ? -1 : program.indexOf(old, from);
            if (at < 0) {
                return "there is no such place in the program";
            }
            String changed = program.substring(0, at) + instead + program.substring(at + old.length());
            Map<String, byte[]> classes = compile(changed);
            if (classes.isEmpty()) {
                return "the changed program does not compile";
            }
            Loader loader = new Loader(classes);
            for (String test : TESTS) {
                var maker = loader.loadClass(test).getDeclaredConstructor();
                var found = loader.loadClass("Sentences").getDeclaredMethod("found", String.class);
                maker.setAccessible(true);
                found.setAccessible(true);
                Map<?, ?> answer = (Map<?, ?>) found.invoke(maker.newInstance(), sentence);
                if (answer.get(sentence) instanceof List<?> wrong && !wrong.isEmpty()) {
                    return "";
                }
            }
            return "its test does not fail";
        }
    }

    // ---------------------------------------------------------------- the changed program

    private static Map<String, byte[]> compile(String program) throws IOException {
        JavaCompiler compiler = ToolProvider.getSystemJavaCompiler();
        StandardJavaFileManager files = compiler.getStandardFileManager(d -> { }, null, null);
        try (Kept kept = new Kept(files)) {
            JavaFileObject source = new SimpleJavaFileObject(URI.create("string:///WaterStair.java"), JavaFileObject.Kind.SOURCE) {
                @Override
                public CharSequence getCharContent(boolean ignored) {
                    return program;
                }
            };
            boolean isMade = compiler.getTask(null, kept, d -> { }, List.of("-proc:none"), null, List.of(source)).call();
            return isMade ? kept.classes() : Map.of();
        }
    }

    /** Keeps what is compiled in memory. */
    private static final class Kept extends ForwardingJavaFileManager<StandardJavaFileManager> {
        private final Map<String, ByteArrayOutputStream> made = new HashMap<>();

        Kept(StandardJavaFileManager files) {
            super(files);
        }

        Map<String, byte[]> classes() {
            Map<String, byte[]> classes = new HashMap<>();
            made.forEach((name, bytes) -> classes.put(name, bytes.toByteArray()));
            return classes;
        }

        @Override
        public JavaFileObject getJavaFileForOutput(JavaFileManager.Location place, String name, JavaFileObject.Kind kind,
                javax.tools.FileObject sibling) {
            return new SimpleJavaFileObject(URI.create("memory:///" + name.replace('.', '/') + ".class"), kind) {
                @Override
                public OutputStream openOutputStream() {
                    ByteArrayOutputStream bytes = new ByteArrayOutputStream();
                    made.put(name, bytes);
                    return bytes;
                }
            };
        }
    }

    /** Finds the changed program ahead of the one there is, and the tests anew, so that they call it. */
    private static final class Loader extends ClassLoader {
        private final Map<String, byte[]> changed;

        Loader(Map<String, byte[]> changed) {
            super(BreakTest.class.getClassLoader());
            this.changed = changed;
        }

        @Override
        protected Class<?> loadClass(String name, boolean resolve) throws ClassNotFoundException {
            synchronized (getClassLoadingLock(name)) {
                Class<?> known = findLoadedClass(name);
                if (known != null) {
                    return known;
                }
                if (name.contains(".")) {
                    return super.loadClass(name, resolve);
                }
                byte[] bytes = changed.containsKey(name) ? changed.get(name) : bytesOf(name);
                return defineClass(name, bytes, 0, bytes.length);
            }
        }

        private byte[] bytesOf(String name) throws ClassNotFoundException {
            try (var stream = getParent().getResourceAsStream(name + ".class")) {
                if (stream == null) {
                    throw new ClassNotFoundException(name);
                }
                return stream.readAllBytes();
            } catch (IOException e) {
                throw new ClassNotFoundException(name, e);
            }
        }
    }
}
