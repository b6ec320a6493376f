import java.io.File;
import java.io.IOException;
import java.lang.reflect.Method;
import java.lang.reflect.Modifier;
import java.nio.file.Files;
import java.nio.file.Path;
import java.util.ArrayList;
import java.util.Comparator;
import java.util.List;
import java.util.regex.Matcher;
import java.util.regex.Pattern;
import java.util.stream.Stream;

/** README.md: its examples answer as they say, its commands work on a clean copy, every call and test is named. */
public final class ReadmeTest {
    private static final Pattern BLOCK = Pattern.compile("(?ms)^```(\\w+)\\n(.*?)^```$");
    /** A call, and first in its comment what it answers. */
    private static final Pattern EXAMPLE = Pattern.compile(
            "(x\\.\\w+\\(.*?\\)); *// (-?\\d+|true|false|throws \\w+)(:.*)?");
    private static final String ALL_TESTS = ".ci/run";

    private static int wrong = 0;

    private static void need(boolean right, String what) {
        if (!right) {
            wrong++;
            System.out.println("README.md: " + what);
        }
    }

    private static List<String> blocks(String page, String language) {
        List<String> found = new ArrayList<>();
        Matcher block = BLOCK.matcher(page);
        while (block.find()) {
            if (block.group(1).equals(language)) {
                found.add(block.group(2));
            }
        }
        return found;
    }

    /** What is printed stands in the answer of a command that failed. */
    private static void succeed(Path at, String... command) throws IOException, InterruptedException {
        Process process = new ProcessBuilder(command).directory(at.toFile()).redirectErrorStream(true).start();
        String printed = new String(process.getInputStream().readAllBytes());
        int code = process.waitFor();
        need(code == 0, String.join(" ", command) + " ends with " + code + ":\n" + printed);
    }

    private static String due(String call, String answer) {
        String name = "\"" + call.replace("\"", "'") + "\", \"";
        if (answer.equals("true") || answer.equals("false")) {
            return "Check.due(" + name + (answer.equals("true") ? 1 : 0) + "\", () -> Check.bit(" + call + "));\n";
        }
        return "Check.due(" + name + answer.replace(' ', '.') + "\", () -> " + call + ");\n";
    }

    /** Blocks of methods stand as they are; the others are one program, in which each call is held to its answer. */
    private static String program(List<String> examples) {
        StringBuilder methods = new StringBuilder();
        StringBuilder calls = new StringBuilder();
        for (String block : examples) {
            if (block.startsWith("static ")) {
                methods.append(block);
                continue;
            }
            for (String line : block.split("\n")) {
                Matcher example = EXAMPLE.matcher(line);
                if (example.matches()) {
                    calls.append(due(example.group(1), example.group(2)));
                } else {
                    need(!line.startsWith("x.") || line.startsWith("x.begin("), "no answer: " + line);
                    calls.append(line).append('\n');
                }
            }
        }
        return "public final class ReadmeExamples {\n" + methods + "public static void main(String[] args) {\n" + calls
                + "Check.end();\n}\n}\n";
    }

    private static void examples(String page, Path work) throws IOException, InterruptedException {
        List<String> examples = blocks(page, "java");
        Path file = work.resolve("ReadmeExamples.java");
        Files.writeString(file, program(examples));
        String classes = System.getProperty("java.class.path");
        String tests = Stream.of(classes.split(File.pathSeparator)).map(each -> Path.of(each).toAbsolutePath().toString())
                .reduce(work.toString(), (all, each) -> all + File.pathSeparator + each);
        succeed(work, "javac", "-cp", tests, "-d", work.toString(), file.toString());
        succeed(work, "java", "-cp", tests, "ReadmeExamples");
        for (Method method : FullHouse.class.getDeclaredMethods()) {
            boolean shown = String.join("", examples).contains("x." + method.getName() + "(");
            need(shown || !Modifier.isPublic(method.getModifiers()), "no example of " + method.getName());
        }
    }

    private static void copy(Path from, Path to) throws IOException {
        try (Stream<Path> files = Files.walk(from)) {
            for (Path file : (Iterable<Path>) files::iterator) {
                Path target = to.resolve(from.relativize(file).toString());
                if (!Files.isDirectory(file)) {
                    Files.createDirectories(target.getParent());
                    Files.copy(file, target);
                }
            }
        }
    }

    /** In a copy of what is checked in, beside the same shared. The command that runs this test is not run by it. */
    private static void commands(String page, Path root, Path work) throws IOException, InterruptedException {
        Path clean = work.resolve("main");
        copy(root.resolve(".ci"), clean.resolve(".ci"));
        copy(root.resolve("src"), clean.resolve("src"));
        Files.createSymbolicLink(work.resolve("shared"), root.resolve("../shared").toRealPath());
        boolean all = false;
        for (String block : blocks(page, "sh")) {
            for (String command : block.split("\n")) {
                if (command.equals(ALL_TESTS)) {
                    all = true;
                } else {
                    succeed(clean, "sh", "-c", command);
                }
            }
        }
        need(all, "doesn't say how to run all tests");
        need(Files.isExecutable(clean.resolve(ALL_TESTS)), ALL_TESTS + " can't be run");
    }

    private static void names(String page, Path root) throws IOException {
        try (Stream<Path> files = Files.list(root.resolve("src/test/java"))) {
            for (Path file : (Iterable<Path>) files::iterator) {
                String name = file.getFileName().toString().replace(".java", "");
                need(!name.endsWith("Test") || page.contains("`" + name + "`"), "doesn't name " + name);
            }
        }
        Matcher name = Pattern.compile("`(\\w+Test)`").matcher(page);
        while (name.find()) {
            Path file = root.resolve("src/test/java/" + name.group(1) + ".java");
            need(Files.exists(file), "names " + name.group(1) + ", which isn't there");
        }
    }

    private static void clear(Path work) throws IOException {
        try (Stream<Path> files = Files.walk(work)) {
            for (Path file : (Iterable<Path>) files.sorted(Comparator.reverseOrder())::iterator) {
                Files.delete(file);
            }
        }
    }

    public static void main(String[] args) throws IOException, InterruptedException {
        Path root = Path.of(args.length > 0 ? args[0] : ".").toAbsolutePath();
        String page = Files.readString(root.resolve("README.md"));
        Path work = Files.createTempDirectory("readme");
        examples(page, work);
        commands(page, root, work);
        names(page, root);
        clear(work);
        System.exit(wrong == 0 ? 0 : 1);
    }
}
