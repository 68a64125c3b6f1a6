import java.io.IOException;
import java.lang.reflect.Method;
import java.lang.reflect.Modifier;
import java.net.URL;
import java.net.URLClassLoader;
import java.nio.file.Files;
import java.nio.file.Path;
import java.util.ArrayList;
import java.util.List;
import java.util.regex.Matcher;
import java.util.regex.Pattern;
import javax.tools.ToolProvider;

/** README.md: each call in its examples answers what is told behind it, and no call of the class is left out. */
public final class ReadmeTest {
    private static final Path README = Path.of("README.md");
    private static final Pattern EXAMPLE = Pattern.compile("```java\n(.*?)```", Pattern.DOTALL);
    private static final Pattern ANSWERED = Pattern.compile("(x\\.\\w+\\(.*\\));\\s*// (-?\\d+)\\b.*");
    private static final Pattern CALL = Pattern.compile("`(\\w+)`");
    private static final int LEAST_ANSWERS = 30;

    private ReadmeTest() { }

    public static void main(String[] args) throws Exception {
        String readme = Files.readString(README);
        List<String> statements = statementsOf(readme);
        int wrong = toldWrong(readme) + run(statements);
        long answers = statements.stream().filter(s -> s.startsWith("due(")).count();
        if (answers < LEAST_ANSWERS) {
            System.out.println("README.md has but " + answers + " calls with an answer behind");
            wrong++;
        }
        System.out.println(wrong == 0 ? "ReadmeTest: " + answers + " answers are as told" : wrong + " faults in README.md");
        if (wrong != 0) {
            System.exit(1);
        }
    }

    private static int toldWrong(String readme) {
        List<String> told = new ArrayList<>();
        Matcher call = CALL.matcher(readme);
        while (call.find()) {
            told.add(call.group(1));
        }
        int wrong = 0;
        for (Method method : NineMilesOff.class.getDeclaredMethods()) {
            if (Modifier.isPublic(method.getModifiers()) && !told.contains(method.getName())) {
                System.out.println("README.md does not tell of " + method.getName());
                wrong++;
            }
        }
        return wrong;
    }

    /** The examples' lines; one with an answer behind becomes a test of that answer. */
    private static List<String> statementsOf(String readme) {
        List<String> statements = new ArrayList<>();
        Matcher example = EXAMPLE.matcher(readme);
        while (example.find()) {
            statements.add("{");
            for (String line : example.group(1).split("\n")) {
                Matcher answered = ANSWERED.matcher(line);
                statements.add(answered.matches() ? dueOf(answered.group(1), answered.group(2)) : line);
            }
            statements.add("}");
        }
        return statements;
    }

    private static String dueOf(String call, String want) {
        return "due(\"" + call.replace("\"", "\\\"") + "\", " + call + ", " + want + "L);";
    }

    private static int run(List<String> statements) throws Exception {
        Path folder = Files.createTempDirectory("readme");
        try {
            Path source = folder.resolve("ReadmeRun.java");
            Files.writeString(source, "public final class ReadmeRun {\n"
                + "static int wrong;\n"
                + "static void due(String call, long got, long want) {\n"
                + "if (got != want) { wrong++; System.out.println(call + \" answered \" + got + \", told is \" + want); }\n"
                + "}\n"
                + "public static int run() {\n" + String.join("\n", statements) + "\nreturn wrong;\n}\n}\n");
            String classes = System.getProperty("java.class.path");
            int refused = ToolProvider.getSystemJavaCompiler().run(null, null, null,
                "-cp", classes, "-d", folder.toString(), source.toString());
            return refused != 0 ? 1 : load(folder);
        } finally {
            delete(folder);
        }
    }

    private static int load(Path folder) throws Exception {
        try (URLClassLoader loader = new URLClassLoader(new URL[] {folder.toUri().toURL()})) {
            return (int) loader.loadClass("ReadmeRun").getMethod("run").invoke(null);
        }
    }

    private static void delete(Path folder) throws IOException {
        for (String name : List.of("ReadmeRun.java", "ReadmeRun.class")) {
            Files.deleteIfExists(folder.resolve(name));
        }
        Files.delete(folder);
    }
}
