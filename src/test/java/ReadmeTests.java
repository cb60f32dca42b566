import java.io.IOException;
import java.lang.reflect.Field;
import java.lang.reflect.Method;
import java.lang.reflect.Modifier;
import java.nio.charset.StandardCharsets;
import java.nio.file.Files;
import java.nio.file.Path;
import java.util.ArrayList;
import java.util.Comparator;
import java.util.List;
import java.util.Map;
import java.util.TreeMap;
import java.util.regex.Matcher;
import java.util.regex.Pattern;
import java.util.stream.Stream;

/** README.md: its piece of code compiles and prints what it says, its commands run as they stand, it names all. */
public final class ReadmeTests extends Checks {
    private static final Path CLASS = Path.of("src/main/java/TimeWishes.java");
    private static final Path OWN_TESTS = Path.of("src/test/java");
    private static final Path SHARED_TESTS = Path.of("../shared/tests");

    /** What stands between the fences of this kind below the heading. */
    private static List<String> fenced(String readme, String heading, String kind) {
        Matcher section = Pattern.compile("(?ms)^## " + heading + "$(.*?)(?=^## |\\z)").matcher(readme);
        due("there is a heading \"" + heading + "\"", section.find() ? 1 : 0, 1);
        List<String> found = new ArrayList<>();
        Matcher fence = Pattern.compile("(?ms)^```" + kind + "\n(.*?)^```$").matcher(section.group(1));
        while (fence.find()) {
            found.add(fence.group(1));
        }
        due("there is something between ``` of the kind " + kind, found.isEmpty() ? 0 : 1, 1);
        return found;
    }

    /** What the command tells, and behind it, on a line of its own, its exit code. */
    private static String run(Path log, String... command) throws IOException, InterruptedException {
        ProcessBuilder builder = new ProcessBuilder(command);
        builder.environment().put("RUN_BY_README_TESTS", "yes");
        builder.environment().remove("ONLY_TESTS");
        Process process = builder.redirectErrorStream(true).redirectOutput(log.toFile()).start();
        int code = process.waitFor();
        return Files.readString(log, StandardCharsets.UTF_8) + "exit code " + code + "\n";
    }

    private static void pieceOfCode(String readme, Path room) throws IOException, InterruptedException {
        List<String> code = fenced(readme, "How to use it", "java");
        List<String> printed = fenced(readme, "How to use it", "text");
        due("pieces of code, and what they print", code.size(), printed.size());
        Path log = room.resolve("log");
        for (int i = 0; i < code.size(); i++) {
            Matcher name = Pattern.compile("public final class (\\w+) ").matcher(code.get(i));
            due("it is a class", name.find() ? 1 : 0, 1);
            Path file = room.resolve(name.group(1) + ".java");
            Files.writeString(file, code.get(i));
            String classes = room.resolve("classes").toString();
            due("compiling " + name.group(1), run(log, "javac", "-Xlint:all", "-Werror", "-d", classes,
                CLASS.toString(), file.toString()), "exit code 0\n");
            due("running " + name.group(1), run(log, "java", "-cp", classes, name.group(1)),
                printed.get(i) + "exit code 0\n");
        }
    }

    private static void commands(String readme, Path room) throws IOException, InterruptedException {
        List<String> commands = fenced(readme, "How to run the tests", "sh");
        Map<String, String> told = new TreeMap<>();
        for (String command : commands) {
            String answer = run(room.resolve("log"), "sh", "-e", "-c", command);
            due("the last lines of " + command.trim(), lastLines(answer, 2).replaceAll("^\\d+", "all"),
                "all passed, 0 failed\nexit code 0\n");
            told.put(command.trim(), answer);
        }
        String all = told.getOrDefault("sh .ci/run", "");
        for (String test : tests()) {
            if (!test.equals("ReadmeTests")) {
                due("sh .ci/run runs " + test, all.contains("== " + test + "\n") ? 1 : 0, 1);
            }
        }
    }

    private static String lastLines(String text, int n) {
        String[] lines = text.split("\n");
        StringBuilder last = new StringBuilder();
        for (int i = Math.max(0, lines.length - n); i < lines.length; i++) {
            last.append(lines[i]).append('\n');
        }
        return last.toString();
    }

    private static List<String> javaFiles(Path directory) throws IOException {
        try (Stream<Path> files = Files.list(directory)) {
            return files.map(file -> file.getFileName().toString()).filter(name -> name.endsWith(".java"))
                .map(name -> name.replace(".java", "")).sorted().toList();
        }
    }

    private static List<String> tests() throws IOException {
        List<String> found = new ArrayList<>(javaFiles(SHARED_TESTS));
        for (String name : javaFiles(OWN_TESTS)) {
            if (Files.readString(OWN_TESTS.resolve(name + ".java")).contains("static void main(")) {
                found.add(name);
            }
        }
        return found;
    }

    private static void names(String readme) throws IOException {
        for (Method one : TimeWishes.class.getDeclaredMethods()) {
            if (Modifier.isPublic(one.getModifiers())) {
                due("it names " + one.getName(), readme.contains("`" + one.getName() + "(") ? 1 : 0, 1);
            }
        }
        for (Field one : TimeWishes.class.getFields()) {
            due("it names " + one.getName(), readme.contains("`" + one.getName() + "`") ? 1 : 0, 1);
        }
        for (String test : javaFiles(OWN_TESTS)) {
            due("it names " + test, readme.contains("`" + test + "`") ? 1 : 0, 1);
        }
        Matcher file = Pattern.compile("`((\\.\\./|src/|\\.ci/)[\\w./]+|\\w+\\.md)`").matcher(readme);
        while (file.find()) {
            due("there is a file " + file.group(1), Files.exists(Path.of(file.group(1))) ? 1 : 0, 1);
        }
    }

    private static void remove(Path room) throws IOException {
        try (Stream<Path> files = Files.walk(room)) {
            for (Path file : files.sorted(Comparator.reverseOrder()).toList()) {
                Files.delete(file);
            }
        }
    }

    public static void main(String[] args) throws IOException, InterruptedException {
        String readme = Files.readString(Path.of("README.md"), StandardCharsets.UTF_8);
        Path room = Files.createTempDirectory("readme");
        tellAbout("README.md: ");
        try {
            names(readme);
            pieceOfCode(readme, room);
            commands(readme, room);
        } finally {
            remove(room);
        }
        System.out.println("ReadmeTests: " + passedSoFar() + " passed, " + failedSoFar() + " failed");
        if (failedSoFar() > 0) {
            System.exit(1);
        }
    }
}
