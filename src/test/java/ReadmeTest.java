import java.io.IOException;
import java.nio.charset.StandardCharsets;
import java.nio.file.Files;
import java.nio.file.Path;
import java.util.ArrayList;
import java.util.Comparator;
import java.util.List;
import java.util.concurrent.TimeUnit;
import java.util.regex.Matcher;
import java.util.regex.Pattern;
import java.util.stream.Stream;

/** README.md: what it tells to type works as it stands there, and what it says of calls is so. */
public final class ReadmeTest {
    private static final String ALL_TESTS = ".ci/run";

    private static List<String> fenced(String readme, String kind) {
        List<String> found = new ArrayList<>();
        Matcher m = Pattern.compile("(?ms)^```" + kind + "\n(.*?)^```$").matcher(readme);
        while (m.find()) {
            found.add(m.group(1));
        }
        return found;
    }

    private static void same(String what, String got, String want) {
        Due.is(what, got.equals(want) ? 1 : 0, 1);
        if (!got.equals(want)) {
            System.out.println("-- got:\n" + got + "-- due:\n" + want);
        }
    }

    private static void copyTree(Path from, Path to) throws IOException {
        try (Stream<Path> all = Files.walk(from)) {
            for (Path file : (Iterable<Path>) all::iterator) {
                Files.copy(file, to.resolve(from.relativize(file).toString()));
            }
        }
    }

    private static void removeTree(Path root) throws IOException {
        try (Stream<Path> all = Files.walk(root).sorted(Comparator.reverseOrder())) {
            for (Path file : (Iterable<Path>) all::iterator) {
                Files.delete(file);
            }
        }
    }

    private static String typed(String line, Path root) throws IOException, InterruptedException {
        Path told = Files.createTempFile("told", ".txt");
        Process shell = new ProcessBuilder("sh", "-c", line).directory(root.toFile())
            .redirectError(ProcessBuilder.Redirect.INHERIT).redirectOutput(told.toFile()).start();
        boolean ended = shell.waitFor(5, TimeUnit.MINUTES);
        Due.is("it ends: " + line, ended ? 1 : 0, 1);
        String text = Files.readString(told, StandardCharsets.UTF_8);
        Files.delete(told);
        if (!ended) {
            shell.destroyForcibly();
            return text;
        }
        Due.is("exit code of: " + line, shell.exitValue(), 0);
        if (shell.exitValue() != 0) {
            System.out.println(text);
        }
        return text;
    }

    /** Each line in a copy of the project, but for the one by which this test runs itself. */
    private static void commands(String readme, Path root) throws IOException, InterruptedException {
        String printed = fenced(readme, "text").get(0);
        boolean exampleRan = false;
        boolean allTestsTold = false;
        for (String block : fenced(readme, "sh")) {
            for (String line : block.split("\n")) {
                if (line.equals(ALL_TESTS)) {
                    Due.is(ALL_TESTS + " can be run", Files.isExecutable(Path.of(ALL_TESTS)) ? 1 : 0, 1);
                    allTestsTold = true;
                    continue;
                }
                String text = typed(line, root);
                if (line.endsWith(" Example")) {
                    same("what the example prints", text, printed);
                    exampleRan = true;
                }
            }
        }
        Due.is("the example is run", exampleRan ? 1 : 0, 1);
        Due.is("all tests are told", allTestsTold ? 1 : 0, 1);
    }

    /** Files that are named by a path stand there, and each test of the project is named. */
    private static void files(String readme) throws IOException {
        Matcher m = Pattern.compile("`(\\.\\./shared/[^` *]+|src/[^` *]+)`").matcher(readme);
        while (m.find()) {
            Due.is(m.group(1) + " stands", Files.exists(Path.of(m.group(1))) ? 1 : 0, 1);
        }
        try (Stream<Path> all = Files.list(Path.of("src/test/java"))) {
            for (Path file : (Iterable<Path>) all::iterator) {
                String name = file.getFileName().toString();
                Due.is(name + " is named", readme.contains(name + "`") ? 1 : 0, 1);
            }
        }
    }

    /** The table of calls has each call of the face, with as many numbers as it takes. */
    private static void calls(String readme) {
        for (java.lang.reflect.Method method : StairCodes.class.getMethods()) {
            if (method.getDeclaringClass() == StairCodes.class) {
                String numbers = "\\(" + "\\w+, ".repeat(Math.max(0, method.getParameterCount() - 1))
                    + (method.getParameterCount() == 0 ? "" : "\\w+") + "\\)";
                String row = "(?m)^\\| [^|]*`" + method.getName() + numbers + "`[^|]*\\|";
                Due.is(method + " is told", Pattern.compile(row).matcher(readme).find() ? 1 : 0, 1);
            }
        }
    }

    private static void answer(String readme, String row, long got, long want) {
        Due.is(row + " is told", readme.contains("\n| " + row + " |") ? 1 : 0, 1);
        Due.is(row, got, want);
    }

    /** The table of refusals, by calls that answer them. */
    private static void refusals(String readme) {
        StairCodes x = new StairCodes();
        answer(readme, "`BAD` -2", x.flip(0, 0, 0), -2);
        answer(readme, "`NOT` -3", x.undo(), -3);
        x.flip(1, 0, 0);
        x.flip(1, 0, 1);
        Due.is("two BITS hit: WORD 1, 0", x.mend(1, 0), -6);
        answer(readme, "`STALL` -6", StairCodes.STALL, -6);
        x.flip(1, 0, 3);
        x.rule(1);
        answer(readme, "`DOUBT` -5", x.mend(1, 0), -5);
        Due.is("nothing to mend", x.mend(4, 0), StairCodes.NONE);
        answer(readme, "-11 to -15", x.lose(0), -11);
        Due.is("a long refusal", x.get(0, 0), Long.MIN_VALUE + 11);
        Due.is("SIZE", x.sheet(0, 0, -1), -15);
        Due.is("the latest FINDING", x.count(8), 5);
        Due.is("no such BLOCK", x.block(5), 0);
    }

    public static void main(String[] args) throws IOException, InterruptedException {
        String readme = Files.readString(Path.of("README.md"), StandardCharsets.UTF_8);
        String example = Files.readString(Path.of("src/example/java/Example.java"), StandardCharsets.UTF_8);
        same("the example as README.md has it", fenced(readme, "java").get(0), example);
        files(readme);
        calls(readme);
        refusals(readme);
        Path root = Files.createTempDirectory("readme");
        copyTree(Path.of("src"), root.resolve("src"));
        commands(readme, root);
        removeTree(root);
        Due.end();
    }
}
