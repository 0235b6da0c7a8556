import java.io.IOException;
import java.lang.reflect.Method;
import java.lang.reflect.Modifier;
import java.nio.file.Files;
import java.nio.file.Path;
import java.util.ArrayList;
import java.util.List;
import java.util.regex.Matcher;
import java.util.regex.Pattern;

/** That README.md's Java lines compile as one program, and that its calls answer as their comments say. */
public final class ReadmeTest {
    private static final Path README = Path.of("README.md");
    private static final Path RUN = Path.of(".ci/run");
    private static final String PROGRAM = "ReadmeProgram";
    private static final Pattern ANSWERED = Pattern.compile("(?:(\\w+ \\w+) = )?(game\\..*);\\s+// (-?\\d+|'.')(:.*)?");

    public static void main(String[] args) throws IOException, InterruptedException {
        List<String> lines = javaLines();
        everyCallAnswers(lines);
        everyMethodIsShown(lines);
        command();
        runs(lines);
        Due.finish();
    }

    private static List<String> javaLines() throws IOException {
        List<String> lines = new ArrayList<>();
        boolean inJava = false;
        for (String line : Files.readAllLines(README)) {
            if (line.startsWith("```")) {
                inJava = line.equals("```java");
            } else if (inJava) {
                lines.add(line);
            }
        }
        return lines;
    }

    /** A call that stands alone tells its answer; clear() has none. */
    private static void everyCallAnswers(List<String> lines) {
        int calls = 0;
        for (String line : lines) {
            if (line.startsWith("game.") && !line.equals("game.clear();")) {
                calls++;
                Due.same(line, ANSWERED.matcher(line).matches() ? "tells an answer" : "tells none", "tells an answer");
            }
        }
        Due.same("whether README.md shows calls", calls > 0 ? 1 : 0, 1);
    }

    private static void everyMethodIsShown(List<String> lines) {
        String all = String.join("\n", lines);
        for (Method method : ChessLedger.class.getDeclaredMethods()) {
            if (Modifier.isPublic(method.getModifiers())) {
                String call = "game." + method.getName() + "(";
                Due.same(call + ")", all.contains(call) ? "is shown" : "is not shown", "is shown");
            }
        }
    }

    private static void command() throws IOException {
        Due.same("the command", Files.readAllLines(README).contains("    " + RUN) ? "is told" : "is not told", "is told");
        Due.same("whether " + RUN + " can be run", Files.isExecutable(RUN) ? 1 : 0, 1);
    }

    private static void runs(List<String> lines) throws IOException, InterruptedException {
        Path folder = Files.createTempDirectory("readme");
        Path source = folder.resolve(PROGRAM + ".java");
        Files.write(source, program(lines));
        String classes = System.getProperty("java.class.path");
        Due.same("javac", run("javac", "-cp", classes, "-d", folder.toString(), source.toString()), 0);
        String both = folder + System.getProperty("path.separator") + classes;
        Due.same("java", run("java", "-cp", both, PROGRAM), 0);
        for (Path made : new Path[] {source, folder.resolve(PROGRAM + ".class"), folder}) {
            Files.deleteIfExists(made);
        }
    }

    private static int run(String... command) throws IOException, InterruptedException {
        return new ProcessBuilder(command).inheritIO().start().waitFor();
    }

    private static List<String> program(List<String> lines) {
        List<String> program = new ArrayList<>();
        program.add("final class " + PROGRAM + " {");
        program.add("    public static void main(String[] args) {");
        for (String line : lines) {
            Matcher answered = ANSWERED.matcher(line);
            program.add(answered.matches() ? compared(answered) : line);
        }
        program.add("        Due.finish();");
        program.add("    }");
        program.add("}");
        return program;
    }

    private static String compared(Matcher answered) {
        String call = answered.group(2);
        String told = "\"README.md: " + call.replace("\"", "\\\"") + "\"";
        if (answered.group(1) == null) {
            return "Due.same(" + told + ", " + call + ", " + answered.group(3) + ");";
        }
        String name = answered.group(1).replaceAll(".* ", "");
        return answered.group(1) + " = " + call + "; Due.same(" + told + ", " + name + ", " + answered.group(3) + ");";
    }
}
