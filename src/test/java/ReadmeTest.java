import java.io.IOException;
import java.io.UncheckedIOException;
import java.lang.reflect.Method;
import java.lang.reflect.Modifier;
import java.nio.charset.StandardCharsets;
import java.nio.file.Files;
import java.nio.file.Path;
import java.util.ArrayList;
import java.util.Comparator;
import java.util.List;
import java.util.Set;
import java.util.TreeSet;
import java.util.regex.Matcher;
import java.util.regex.Pattern;
import java.util.stream.Stream;

/** Does what README.md says, as it is written there. It is run from the project's folder. */
public final class ReadmeTest extends Tests {
    private static final Pattern BLOCK =
        Pattern.compile("^```(\\w+)\\n(.*?)^```$", Pattern.DOTALL | Pattern.MULTILINE);
    private static final Pattern TOLD_ANSWER = Pattern.compile("// (-?\\d+):");
    private static final Pattern TOLD_CALL = Pattern.compile("^\\| `(\\w+)\\(([^)]*)\\)`", Pattern.MULTILINE);

    private static List<String> blocks(String readme, String kind) {
        List<String> found = new ArrayList<>();
        Matcher block = BLOCK.matcher(readme);
        while (block.find()) {
            if (block.group(1).equals(kind)) {
                found.add(block.group(2));
            }
        }
        return found;
    }

    private static List<String> toldAnswers(String example) {
        List<String> answers = new ArrayList<>();
        Matcher told = TOLD_ANSWER.matcher(example);
        while (told.find()) {
            answers.add(told.group(1));
        }
        return answers;
    }

    private static Set<String> toldCalls(String readme) {
        Set<String> calls = new TreeSet<>();
        Matcher told = TOLD_CALL.matcher(readme);
        while (told.find()) {
            calls.add(told.group(1) + " " + told.group(2).split(", ").length);
        }
        return calls;
    }

    private static Set<String> publicCalls() {
        Set<String> calls = new TreeSet<>();
        for (Method method : ImageVault.class.getDeclaredMethods()) {
            if (Modifier.isPublic(method.getModifiers())) {
                calls.add(method.getName() + " " + method.getParameterCount());
            }
        }
        return calls;
    }

    private static void copySources(Path to) throws IOException {
        try (Stream<Path> sources = Files.walk(Path.of("src"))) {
            for (Path source : (Iterable<Path>) sources::iterator) {
                Files.copy(source, to.resolve(source));
            }
        }
    }

    private static void remove(Path folder) throws IOException {
        try (Stream<Path> all = Files.walk(folder)) {
            for (Path path : (Iterable<Path>) all.sorted(Comparator.reverseOrder())::iterator) {
                Files.delete(path);
            }
        }
    }

    /** The lines that the commands print; that they fail is a wrong answer. */
    private static List<String> run(String commands, Path folder) throws IOException {
        Process process = new ProcessBuilder("sh", "-e", "-c", commands)
            .directory(folder.toFile()).redirectError(ProcessBuilder.Redirect.INHERIT).start();
        process.getOutputStream().close();
        String printed = new String(process.getInputStream().readAllBytes(), StandardCharsets.UTF_8);
        due(commands + printed + "its exit code", process.onExit().join().exitValue(), 0);
        return printed.lines().toList();
    }

    private static void doAsWritten(String readme, Path folder) throws IOException {
        List<String> programs = blocks(readme, "java");
        List<String> commands = blocks(readme, "sh");
        due("the number of programs", programs.size(), 1);
        due("the number of command blocks", commands.size(), 2);
        copySources(folder);
        Files.writeString(folder.resolve("Example.java"), programs.get(0));
        due("the example", run(commands.get(0), folder), toldAnswers(programs.get(0)));
        run(commands.get(1), folder);
    }

    private static void commandsAndAnswers(String readme) {
        try {
            Path folder = Files.createTempDirectory("readme");
            try {
                doAsWritten(readme, folder);
            } finally {
                remove(folder);
            }
        } catch (IOException e) {
            throw new UncheckedIOException(e);
        }
    }

    public static void main(String[] args) throws IOException {
        String readme = Files.readString(Path.of("README.md"));
        test("README: the example and the commands", () -> commandsAndAnswers(readme));
        test("README: the table of calls", () -> due("the table", toldCalls(readme), publicCalls()));
        end();
    }
}
