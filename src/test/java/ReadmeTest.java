import java.io.IOException;
import java.lang.reflect.Method;
import java.lang.reflect.Modifier;
import java.net.URL;
import java.net.URLClassLoader;
import java.nio.file.Files;
import java.nio.file.Path;
import java.util.ArrayList;
import java.util.List;
import java.util.regex.Matcher;
import java.util.regex.Pattern;
import java.util.stream.Stream;
import javax.tools.ToolProvider;

/** README.md: its lines of Java answer what stands behind them, and it names every call and every test. */
public final class ReadmeTest {
    private static final String BEGIN = "```java\n";
    private static final String END = "```";
    private static final String HELPER = "static ";
    /** A statement, which may go over several lines, and its answer. */
    private static final Pattern ANSWERED = Pattern.compile("([^;{}]*(?:\"[^\"]*\"[^;{}\"]*)*);  // (-?[0-9]+|true|false)\n");

    private static int wrong = 0;
    private static int answers = 0;

    /** Called by the program that is made of README.md. */
    public static void due(String call, Object got, String want) {
        answers++;
        if (!String.valueOf(got).equals(want)) wrong(call + " answered " + got + ", README.md says " + want);
    }

    private static void wrong(String what) {
        wrong++;
        System.out.println(what);
    }

    private static List<String> blocks(String page) {
        List<String> all = new ArrayList<>();
        for (int from = page.indexOf(BEGIN); from >= 0; from = page.indexOf(BEGIN, from + 1)) {
            int begin = from + BEGIN.length();
            all.add(page.substring(begin, page.indexOf(END, begin)));
        }
        return all;
    }

    private static String asked(String block) {
        StringBuilder made = new StringBuilder();
        Matcher m = ANSWERED.matcher(block);
        while (m.find()) {
            String call = m.group(1).strip();
            String quoted = call.replaceAll("\\s+", " ").replace("\"", "'");
            m.appendReplacement(made, Matcher.quoteReplacement(
                "ReadmeTest.due(\"" + quoted + "\", " + call + ", \"" + m.group(2) + "\");\n"));
        }
        m.appendTail(made);
        if (made.indexOf("//") >= 0) wrong("an answer that is not looked at: " + made);
        return made.toString();
    }

    private static String program(String page) {
        StringBuilder helpers = new StringBuilder();
        StringBuilder lines = new StringBuilder();
        for (String block : blocks(page)) {
            if (block.startsWith(HELPER)) {
                helpers.append(block);
            } else {
                lines.append(asked(block));
            }
        }
        return "public final class Shown {\n" + helpers + "public static void main(String[] none) {\n" + lines + "}\n}\n";
    }

    private static void runShown(String page, Path folder) throws Exception {
        Path source = folder.resolve("Shown.java");
        Files.writeString(source, program(page));
        int exit = ToolProvider.getSystemJavaCompiler().run(null, null, null, "-d", folder.toString(), "-cp",
            System.getProperty("java.class.path"), source.toString());
        if (exit != 0) {
            wrong("the lines of Java do not compile");
            return;
        }
        try (URLClassLoader loader = new URLClassLoader(new URL[] {folder.toUri().toURL()})) {
            loader.loadClass("Shown").getMethod("main", String[].class).invoke(null, (Object) new String[0]);
        }
    }

    private static void sweep(Path folder) throws IOException {
        try (Stream<Path> all = Files.list(folder)) {
            for (Path one : (Iterable<Path>) all::iterator) Files.delete(one);
        }
        Files.delete(folder);
    }

    private static void namesAll(String page) throws IOException {
        for (Method call : WebBank.class.getDeclaredMethods()) {
            boolean isPublic = Modifier.isPublic(call.getModifiers());
            if (isPublic && !page.contains("`" + call.getName() + "()`")) wrong("without the call " + call.getName());
        }
        try (Stream<Path> all = Files.list(Path.of("src/test/java"))) {
            for (Path one : (Iterable<Path>) all::iterator) {
                String name = one.getFileName().toString();
                if (name.endsWith("Test.java") && !page.contains(name)) wrong("without the test " + name);
            }
        }
    }

    public static void main(String[] args) throws Exception {
        String page = Files.readString(Path.of("README.md"));
        Path folder = Files.createTempDirectory("shown");
        try {
            runShown(page, folder);
        } finally {
            sweep(folder);
        }
        namesAll(page);
        if (answers == 0) wrong("no answers");
        System.out.println(wrong == 0 ? answers + " lines of README.md answer as it says" : wrong + " faults of README.md");
        if (wrong != 0) System.exit(1);
    }
}
