import java.io.File;
import java.io.IOException;
import java.nio.charset.StandardCharsets;
import java.nio.file.Files;
import java.nio.file.Path;
import java.util.ArrayList;
import java.util.Comparator;
import java.util.List;
import java.util.TreeSet;
import java.util.regex.Matcher;
import java.util.regex.Pattern;
import java.util.stream.Stream;

/** README.md is so: its examples answer what it says, its commands run as they stand, its files are there. */
public final class ReadmeTest {
    private static final Path PROJECT = Path.of("").toAbsolutePath();
    private static final Pattern BLOCK = Pattern.compile("(?ms)^```(\\w+)\\n(.*?)^```$");
    private static final Pattern ASKED = Pattern.compile("(\\w+\\.\\w+\\(.*\\)); +// (?:throws )?([-\\w]+)(?:: .*)?");
    private static final String ALL_TESTS = "bash .ci/run";

    public static void main(String[] args) throws IOException, InterruptedException {
        String page = Files.readString(PROJECT.resolve("README.md"));
        Path room = Files.createTempDirectory("readme");
        try {
            examples(blocks(page, "java"), room);
            commands(blocks(page, "sh"), room);
        } finally {
            removed(room);
        }
        files(page);
        tests(page);
        Check.ends("ReadmeTest");
    }

    private static List<String> blocks(String page, String kind) {
        List<String> found = new ArrayList<>();
        Matcher blocks = BLOCK.matcher(page);
        while (blocks.find()) {
            if (blocks.group(1).equals(kind)) {
                found.add(blocks.group(2));
            }
        }
        Check.due("blocks of " + kind, found.isEmpty(), false);
        return found;
    }

    // ---- examples

    /** One class of all examples, in which each call with an answer behind it is asked for that answer. */
    private static void examples(List<String> blocks, Path room) throws IOException, InterruptedException {
        StringBuilder methods = new StringBuilder();
        StringBuilder body = new StringBuilder();
        int asked = 0;
        for (String block : blocks) {
            if (block.startsWith("static ")) {
                methods.append(block);
                continue;
            }
            for (String line : block.split("\n")) {
                Matcher call = ASKED.matcher(line);
                Check.due("README: an answer in " + line, call.matches(), line.contains("//"));
                asked += call.matches() ? 1 : 0;
                body.append(call.matches() ? asking(call.group(1), call.group(2)) : line).append('\n');
            }
        }
        Check.due("README: examples with answers", asked > 0, true);
        body.append("Check.ends(\"the examples of README.md\");\n");
        Path source = room.resolve("Examples.java");
        Files.writeString(source, "public final class Examples {\n" + methods + "public static void main(String[] args) {\n" + body + "}\n}\n");
        String classes = System.getProperty("java.class.path") + File.pathSeparator + room;
        runs("README: exit code of javac of the examples", PROJECT, "javac", "-cp", classes, "-d", room.toString(), source.toString());
        runs("README: exit code of the examples", PROJECT, "java", "-cp", classes, "Examples");
    }

    private static String asking(String call, String answer) {
        String name = ("README: " + call).replace("\\", "\\\\").replace("\"", "\\\"");
        return "Check.due(\"" + name + "\", \"" + answer + "\", () -> " + call + ");";
    }

    // ---- commands

    /** In a copy, with ../shared beside it, so that a checkout that is only read will do. */
    private static void commands(List<String> blocks, Path room) throws IOException, InterruptedException {
        Path copy = room.resolve("main");
        copied(PROJECT.resolve("src"), copy.resolve("src"));
        copied(PROJECT.resolve(".ci"), copy.resolve(".ci"));
        Files.createSymbolicLink(room.resolve("shared"), PROJECT.resolve("../shared").normalize());
        boolean tellsAll = false;
        for (String block : blocks) {
            // This very test runs within it, and it would go round.
            if (block.strip().equals(ALL_TESTS)) {
                tellsAll = true;
                Check.due("README: " + ALL_TESTS, Files.isExecutable(copy.resolve(".ci/run")), true);
            } else {
                runs("README: exit code of\n" + block, copy, "bash", "-e", "-c", block);
            }
        }
        Check.due("README tells " + ALL_TESTS, tellsAll, true);
    }

    private static void runs(String what, Path where, String... command) throws IOException, InterruptedException {
        Process process = new ProcessBuilder(command).directory(where.toFile()).redirectErrorStream(true).start();
        process.getOutputStream().close();
        String said = new String(process.getInputStream().readAllBytes(), StandardCharsets.UTF_8);
        int code = process.waitFor();
        if (code != 0) {
            System.out.print(said);
        }
        Check.due(what, code, 0);
    }

    private static void copied(Path from, Path to) throws IOException {
        for (Path file : all(from)) {
            Path there = to.resolve(from.relativize(file).toString());
            if (Files.isDirectory(file)) {
                Files.createDirectories(there);
            } else {
                Files.copy(file, there);
                Check.due("copy of " + file, there.toFile().setExecutable(Files.isExecutable(file)), true);
            }
        }
    }

    /** Links are not followed, so that nothing of ../shared is touched. */
    private static void removed(Path room) throws IOException {
        List<Path> files = all(room);
        files.sort(Comparator.reverseOrder());
        for (Path file : files) {
            Files.delete(file);
        }
    }

    private static List<Path> all(Path from) throws IOException {
        try (Stream<Path> files = Files.walk(from)) {
            return new ArrayList<>(files.toList());
        }
    }

    // ---- names

    private static void files(String page) {
        Matcher names = Pattern.compile("`((?:src|\\.ci|\\.\\.)/[^`*]*)`").matcher(page);
        while (names.find()) {
            Check.due("README: " + names.group(1), Files.exists(PROJECT.resolve(names.group(1))), true);
        }
    }

    private static void tests(String page) throws IOException {
        TreeSet<String> named = new TreeSet<>();
        Matcher names = Pattern.compile("`(\\w+Test)`").matcher(page);
        while (names.find()) {
            named.add(names.group(1));
        }
        TreeSet<String> found = new TreeSet<>();
        for (Path file : all(PROJECT.resolve("src/test/java"))) {
            String name = file.getFileName().toString();
            if (name.endsWith("Test.java")) {
                found.add(name.substring(0, name.length() - 5));
            }
        }
        Check.due("README: tests", named, found);
    }
}
