import java.io.File;
import java.io.IOException;
import java.net.URL;
import java.net.URLClassLoader;
import java.nio.file.Files;
import java.nio.file.Path;
import java.util.List;
import java.util.regex.Matcher;
import java.util.regex.Pattern;
import java.util.stream.Stream;
import javax.tools.ToolProvider;

/** Runs the lines of Java that README.md shows, and looks whether they answer what it says; and that it names each test. */
public final class ReadmeTest {
    private static final Path README = Path.of("README.md");
    private static final Path TESTS = Path.of("src/test/java");
    private static final Pattern ANSWERED = Pattern.compile("(press\\..*);\\s*// ([A-Z]+|true|false|-?\\d+)\\b.*");

    public static void main(String[] args) throws IOException, ReflectiveOperationException {
        namesEachTest();
        Path folder = Files.createTempDirectory("readme");
        try {
            run(folder);
        } finally {
            try (Stream<Path> made = Files.list(folder)) {
                for (Path one : made.toList()) Files.delete(one);
            }
            Files.delete(folder);
        }
        Due.end();
    }

    private static void namesEachTest() throws IOException {
        String text = Files.readString(README);
        try (Stream<Path> all = Files.list(TESTS)) {
            for (Path one : all.toList()) {
                String name = one.getFileName().toString().replace(".java", "");
                Due.answer("README.md names " + name, text.contains("`" + name + "`") ? 1 : 0, 1);
            }
        }
    }

    private static void run(Path folder) throws IOException, ReflectiveOperationException {
        Path source = folder.resolve("ReadmeLines.java");
        Files.writeString(source, lines(Files.readAllLines(README)));
        int code = ToolProvider.getSystemJavaCompiler().run(null, null, null, "-d", folder.toString(),
            "-cp", System.getProperty("java.class.path"), source.toString());
        Due.answer("README.md is compiled", code, 0);
        if (code != 0) return;
        URL[] where = {new File(folder.toString()).toURI().toURL()};
        try (URLClassLoader loader = new URLClassLoader(where, ReadmeTest.class.getClassLoader())) {
            Object told = loader.loadClass("ReadmeLines").getMethod("told").invoke(null);
            List<?> answers = (List<?>) told;
            Due.answer("README.md shows calls", answers.size() > 40 ? 1 : 0, 1);
            for (Object answer : answers) {
                String[] three = (String[]) answer;
                Due.text(three[0], three[1], three[2]);
            }
        }
    }

    /** A class whose one method tells, for each line with an answer, the line, what it answers, and what is due. */
    private static String lines(List<String> readme) {
        StringBuilder all = new StringBuilder("import java.util.*;\npublic class ReadmeLines {\n");
        all.append("public static List<String[]> told() {\nList<String[]> all = new ArrayList<>();\n");
        boolean inside = false;
        for (String line : readme) {
            if (line.startsWith("```")) inside = line.equals("```java");
            else if (inside) all.append(line(line)).append('\n');
        }
        return all.append("return all;\n}\n}\n").toString();
    }

    private static String line(String line) {
        Matcher answered = ANSWERED.matcher(line);
        if (!answered.matches()) return line;
        String call = answered.group(1);
        String due = answered.group(2);
        String want = due.matches("[A-Z]+") ? "NotationPress." + due : due;
        return "all.add(new String[] {\"" + call.replace("\"", "\\\"") + "\", String.valueOf(" + call
            + "), String.valueOf(" + want + ")});";
    }
}
