import java.io.IOException;
import java.net.URL;
import java.net.URLClassLoader;
import java.nio.file.Files;
import java.nio.file.Path;
import java.util.ArrayList;
import java.util.List;
import java.util.regex.Matcher;
import java.util.regex.Pattern;
import javax.tools.ToolProvider;

/** Runs the example of README.md and compares each answer with the one written beside it. */
public final class RangeSuiteReadme {
    private static final Path README = Path.of("README.md");
    private static final Path FOLDER = Path.of("build/readme");
    private static final String NAME = "ReadmeExample";

    // A call, and behind it a comment that begins with the answer: a number, true, false or a constant of the class.
    private static final Pattern ROW = Pattern.compile(
            "(?:(?<kept>int \\w+) = )?(?<call>suite\\.\\w+\\(.*\\)); +// (?<due>-?\\d+|true|false|RangeSuite\\.\\w+)\\b.*");

    private static List<String> exampleRows() throws IOException {
        List<String> rows = new ArrayList<>();
        boolean isInside = false;
        for (String line : Files.readAllLines(README)) {
            if (line.startsWith("```")) {
                isInside = line.equals("```java");
            } else if (isInside && !line.isBlank()) {
                rows.add(line);
            }
        }
        return rows;
    }

    private static String statementOf(String row) {
        Matcher m = ROW.matcher(row);
        if (!m.matches()) {
            return row;
        }
        String kept = m.group("kept");
        String got = kept == null ? m.group("call") : kept.substring("int ".length());
        String first = kept == null ? "" : kept + " = " + m.group("call") + ";\n";
        return first + "due(\"" + m.group("call") + "\", " + got + ", " + m.group("due") + ");";
    }

    private static String sourceOf(List<String> rows) {
        StringBuilder text = new StringBuilder("public final class " + NAME + " {\n"
                + "static int wrong = 0;\n"
                + "static void due(String call, Object got, Object want) {\n"
                + "if (!got.equals(want)) { wrong++; System.out.println(call + \" answered \" + got"
                + " + \", README.md says \" + want); }\n}\n"
                + "public static int run() {\n");
        for (String row : rows) {
            text.append(statementOf(row)).append('\n');
        }
        return text.append("return wrong;\n}\n}\n").toString();
    }

    private static int wrongAnswers(String source) throws IOException, ReflectiveOperationException {
        Files.createDirectories(FOLDER);
        Path file = FOLDER.resolve(NAME + ".java");
        Files.writeString(file, source);
        int failed = ToolProvider.getSystemJavaCompiler().run(null, null, null,
                "-cp", System.getProperty("java.class.path"), "-d", FOLDER.toString(), file.toString());
        if (failed != 0) {
            return 1;
        }
        try (URLClassLoader loader = new URLClassLoader(new URL[] {FOLDER.toUri().toURL()})) {
            return (int) loader.loadClass(NAME).getMethod("run").invoke(null);
        }
    }

    public static void main(String[] args) throws IOException, ReflectiveOperationException {
        List<String> rows = exampleRows();
        long answers = rows.stream().filter(row -> ROW.matcher(row).matches()).count();
        // Without this, a row that can't be read would run and never be compared.
        long calls = rows.stream().filter(row -> row.contains("suite.")).count();
        boolean holds = answers > 0 && answers == calls && wrongAnswers(sourceOf(rows)) == 0;
        System.out.println(holds ? "all " + answers + " answers of the example are as README.md says"
                : "the example of README.md does not hold: " + answers + " of its " + calls + " calls tell an answer");
        if (!holds) {
            System.exit(1);
        }
    }
}
