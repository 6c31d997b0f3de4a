import java.io.IOException;
import java.lang.reflect.Method;
import java.lang.reflect.Modifier;
import java.nio.charset.StandardCharsets;
import java.nio.file.DirectoryStream;
import java.nio.file.Files;
import java.nio.file.Path;
import java.util.ArrayList;
import java.util.List;
import java.util.regex.Matcher;
import java.util.regex.Pattern;

/** Tries what README.md says as it stands there: its program, by its commands, prints what stands behind each call. */
public final class ReadmeCheck {
    private static final Path README = Path.of("README.md");
    private static final Path TESTS = Path.of("src/test/java");
    private static final Path CLASS = Path.of("src/main/java/CodedStore.java");
    // A folder of its own, laid out like the project's, so that the program isn't left lying in the project.
    private static final Path FOLDER = Path.of("build/readme");
    private static int wrong;

    public static void main(String[] args) throws IOException, InterruptedException {
        String readme = Files.readString(README);
        String program = blockWith(readme, "java", "class Demo");
        List<String> due = printsDue(program);
        List<String> printed = printedBy(program, blockWith(readme, "sh", "Demo.java"));
        if (due.isEmpty() || !printed.equals(due)) {
            fault("the program printed " + printed + ", due is " + due);
        }
        blockWith(readme, "sh", ".ci/run");
        checkCallsAreTold(readme);
        checkTestsAreTold(readme);
        System.out.println("ReadmeCheck: " + due.size() + " answers of README.md's program, " + wrong + " faults");
        if (wrong != 0) {
            System.exit(1);
        }
    }

    private static void fault(String what) {
        wrong++;
        System.out.println("ReadmeCheck: " + what);
    }

    private static String blockWith(String readme, String kind, String words) {
        Matcher block = Pattern.compile("(?s)```" + kind + "\n(.*?)```").matcher(readme);
        while (block.find()) {
            if (block.group(1).contains(words)) {
                return block.group(1);
            }
        }
        fault("there is no block of " + kind + " with " + words);
        return "";
    }

    private static List<String> printsDue(String program) {
        List<String> due = new ArrayList<>();
        for (String line : program.split("\n")) {
            if (line.contains("println(")) {
                due.add(line.replaceFirst(".*\\); +// ([^:]+):.*", "$1"));
            }
        }
        return due;
    }

    private static List<String> printedBy(String program, String commands) throws IOException, InterruptedException {
        Files.createDirectories(FOLDER.resolve(CLASS).getParent());
        Files.writeString(FOLDER.resolve(CLASS), Files.readString(CLASS));
        Files.writeString(FOLDER.resolve("Demo.java"), program);
        Process run = new ProcessBuilder("sh", "-e", "-c", commands).directory(FOLDER.toFile())
            .redirectErrorStream(true).start();
        run.getOutputStream().close();
        String printed = new String(run.getInputStream().readAllBytes(), StandardCharsets.UTF_8);
        if (run.waitFor() != 0) {
            fault("the commands failed:\n" + commands);
        }
        return List.of(printed.split("\n"));
    }

    private static void checkCallsAreTold(String readme) {
        for (Method method : CodedStore.class.getDeclaredMethods()) {
            boolean isPublic = Modifier.isPublic(method.getModifiers());
            if (isPublic && !readme.contains("`" + method.getName() + "(")) {
                fault("README.md does not tell of " + method.getName());
            }
        }
    }

    private static void checkTestsAreTold(String readme) throws IOException {
        try (DirectoryStream<Path> files = Files.newDirectoryStream(TESTS, "*.java")) {
            for (Path file : files) {
                String name = file.getFileName().toString().replace(".java", "");
                boolean isRun = Files.readString(file).contains("public static void main(");
                if (isRun && !readme.contains("- `" + name + "`:")) {
                    fault("README.md does not tell of the test " + name);
                }
            }
        }
    }
}
