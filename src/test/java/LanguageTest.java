import java.lang.reflect.Field;
import java.lang.reflect.Method;
import java.lang.reflect.Modifier;
import java.nio.file.Files;
import java.nio.file.Path;
import java.util.ArrayList;
import java.util.Arrays;
import java.util.List;
import java.util.Set;
import java.util.TreeSet;
import java.util.regex.Matcher;
import java.util.regex.Pattern;

/** The face of the class, and what of LANGUAGE.md can be seen in its members and in its text. */
public final class LanguageTest {
    private static final String FACE = "int feed(int,int,int,int,int);int end(int);int stair();int rule();int force(int);"
            + "int level(int,int);int barge(int,int);int tip(int,int,int);int may(int,int,int);int rain(int,int);"
            + "boolean chain(int,boolean);int run(int);int would(int,int);int can();int plan(int,boolean);"
            + "int row(int,boolean,int,int);int drought(int,int);int pass(int);int worst();boolean seen(int,int);"
            + "int went(int,int);int book(int,int,int);int smuggled(int);int seed(int);int seasons(int,int,int);"
            + "int count(int);int image(int);int back(int)";
    private static int wrong = 0;

    public static void main(String[] args) throws Exception {
        face();
        classes();
        String text = Files.readString(Path.of("src/main/java/WaterStair.java"));
        words(text);
        methods(text);
        loops(bare(text));
        System.out.println(wrong == 0 ? "the language is kept to" : wrong + " things are not as LANGUAGE.md asks");
        if (wrong != 0) {
            System.exit(1);
        }
    }

    private static void must(boolean is, String what) {
        if (!is) {
            wrong++;
            System.out.println("not so: " + what);
        }
    }

    private static void face() {
        Class<?> c = WaterStair.class;
        must(Modifier.isPublic(c.getModifiers()) && Modifier.isFinal(c.getModifiers()), "public and final");
        Set<String> found = new TreeSet<>();
        for (Method m : c.getDeclaredMethods()) {
            if (Modifier.isPublic(m.getModifiers())) {
                StringBuilder s = new StringBuilder(m.getReturnType() + " " + m.getName() + "(");
                for (Class<?> p : m.getParameterTypes()) {
                    s.append(s.charAt(s.length() - 1) == '(' ? "" : ",").append(p);
                }
                found.add(s + ")");
                must(!Modifier.isStatic(m.getModifiers()), m.getName() + " is no static method");
            } else {
                must(Modifier.isPrivate(m.getModifiers()), m.getName() + " is private");
            }
        }
        must(found.equals(new TreeSet<>(List.of(FACE.split(";")))), "the methods of the face, and no other: " + found);
        must(c.getDeclaredConstructors().length == 1 && c.getConstructors().length == 1
                && c.getConstructors()[0].getParameterCount() == 0, "one public constructor");
        for (Field f : c.getDeclaredFields()) {
            boolean isNone = f.getName().equals("NONE") && Modifier.isPublic(f.getModifiers());
            must(isNone || Modifier.isPrivate(f.getModifiers()), f.getName() + " is private");
        }
        must(WaterStair.NONE == -1, "NONE is -1");
    }

    private static void classes() {
        Class<?>[] inside = WaterStair.class.getDeclaredClasses();
        Set<String> publicNames = new TreeSet<>();
        for (Method m : WaterStair.class.getMethods()) {
            if (m.getDeclaringClass() == WaterStair.class) {
                publicNames.add(m.getName());
            }
        }
        must(inside.length <= 11, "at most some twelve classes");
        List<Class<?>> all = new ArrayList<>(Arrays.asList(inside));
        all.add(WaterStair.class);
        for (Class<?> c : all) {
            int fields = 0;
            for (Field f : c.getDeclaredFields()) {
                fields += Modifier.isStatic(f.getModifiers()) ? 0 : 1;
                must(!Modifier.isStatic(f.getModifiers()) || Modifier.isFinal(f.getModifiers()), f + " is final");
            }
            must(fields <= 20, c + " has " + fields + " fields");
            for (Method m : c.getDeclaredMethods()) {
                boolean isFace = c == WaterStair.class && Modifier.isPublic(m.getModifiers());
                must(isFace || !publicNames.contains(m.getName()), m + " bears no public method's name");
                must(m.getParameterCount() <= 7, m + " has at most seven parameters");
            }
        }
        for (Class<?> c : inside) {
            int m = c.getModifiers();
            must(Modifier.isStatic(m) && !Modifier.isPublic(m) && !Modifier.isProtected(m), c + " is static, not public");
            must(c.getDeclaredClasses().length == 0, c + " has none within");
        }
    }

    private static String bare(String text) {
        return text.replaceAll("(?s)/\\*.*?\\*/", " ").replaceAll("//[^\n]*", " ")
                .replaceAll("\"[^\"\n]*\"", "S").replaceAll("'[^'\n]+'", "C");
    }

    private static void words(String text) {
        String bare = bare(text);
        for (char sign : text.toCharArray()) {
            must(sign < 127, "plain signs");
        }
        String refused = "package|try|catch|throws?|synchronized|assert|finally|volatile|native|transient|new String|Random"
                + "|Thread|Object|Runnable|hashCode|toString|currentTimeMillis|nanoTime|goto|var";
        Matcher m = Pattern.compile("\\b(" + refused + ")\\b|->|::|\\bstatic\\s*\\{|[A-Za-z]Exact\\b").matcher(bare);
        while (m.find()) {
            must(false, "no " + m.group());
        }
        library(bare, "import", "import ([a-z.A-Z*]+)", "java.util.Arrays");
        library(bare, "Arrays", "\\bArrays\\.([a-zA-Z]+)\\(", "copyOf copyOfRange fill");
        library(bare, "System", "\\bSystem\\.([a-zA-Z]+)", "arraycopy");
        library(bare, "Math", "\\bMath\\.([a-zA-Z]+)\\(", "max min abs");
        library(bare, "Integer", "\\bInteger\\.([a-zA-Z_]+)", "bitCount compare");
        library(bare, "String", "\\b(?:word|names|NAMES)\\.([a-zA-Z_]+)", "length charAt");
        // texts are not joined by +
        must(!Pattern.compile("S\\s*\\+|\\+\\s*S\\b").matcher(bare).find(), "no text joined by +");
        must(!Pattern.compile("while \\(true\\)|for \\([^;)]*;\\s*;").matcher(bare).find(), "no loop without an end");
    }

    private static void library(String bare, String of, String pattern, String allowed) {
        Matcher m = Pattern.compile(pattern).matcher(bare);
        while (m.find()) {
            must(List.of(allowed.split(" ")).contains(m.group(1)), of + ": no " + m.group(1));
        }
    }

    /** The end of each loop can be seen from its own line: a counter against a bound. */
    private static void loops(String bare) {
        int found = 0;
        for (String line : bare.split("\n")) {
            Matcher m = Pattern.compile("^\\s*(?:for \\([^;]*;([^;]*);.*|while \\((.*))\\{$").matcher(line);
            if (!m.find()) {
                must(!line.matches(".*\\b(for|while|do)\\b.*"), "a loop is told in one line: " + line.trim());
                continue;
            }
            found++;
            String goesOn = m.group(1) != null ? m.group(1) : m.group(2);
            must(goesOn.matches("^ ?[a-z][A-Za-z]* (<|<=|>|>=) [^&|]*.*"), "an end that can be seen: " + line.trim());
        }
        must(found > 30, "loops are found: " + found);
    }

    /** Methods stay short: from a line that opens one to the line that closes it. */
    private static void methods(String text) {
        String[] lines = text.split("\n");
        Pattern opens = Pattern.compile("^(    |        )(?!static final class)[A-Za-z][^=;]*\\) \\{$");
        int found = 0;
        for (int i = 0; i < lines.length; i++) {
            Matcher m = opens.matcher(lines[i]);
            if (!m.find() || lines[i].trim().matches("(if|for|while|switch|else|do)\\b.*")) {
                continue;
            }
            found++;
            int end = i;
            while (end < lines.length && !lines[end].equals(m.group(1) + "}")) {
                end++;
            }
            must(end - i < 60, lines[i].trim() + " has " + (end - i + 1) + " lines");
        }
        must(found > 100, "methods are found: " + found);
    }
}
