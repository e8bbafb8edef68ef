import java.io.File;
import java.io.IOException;
import java.lang.reflect.Method;
import java.lang.reflect.Modifier;
import java.nio.charset.StandardCharsets;
import java.nio.file.Files;
import java.nio.file.Path;
import java.util.Comparator;
import java.util.List;
import java.util.stream.Stream;

/** The page that tells how to use the class: its program prints what it says, and each call and each test is on it. */
public final class ReadmeTest {
    private ReadmeTest() {
    }

    public static void main(String[] args) throws IOException, InterruptedException {
        String page = Files.readString(Path.of("README.md"));
        Path made = Files.createTempDirectory("stroll");
        try {
            program(page, made);
        } finally {
            remove(made);
        }
        for (Method m : ShadySide.class.getDeclaredMethods()) {
            if (Modifier.isPublic(m.getModifiers())) {
                Check.due(m.getName() + " is in the table", page.contains("`" + m.getName() + "`"), true);
            }
        }
        for (String test : new File("src/test/java").list()) {
            Check.due(test + " is named", page.contains("`" + test.replace(".java", "") + "`"), true);
        }
        Check.end();
    }

    private static void program(String page, Path made) throws IOException, InterruptedException {
        Path source = made.resolve("Stroll.java");
        Files.writeString(source, block(page, "java"));
        String built = run(List.of("javac", "-d", made.toString(), "src/main/java/ShadySide.java", source.toString()));
        Check.due("javac with the program: " + built, built.isEmpty(), true);
        String printed = run(List.of("java", "-cp", made.toString(), "Stroll"));
        Check.due("the program printed\n" + printed, printed.equals(block(page, "text")), true);
    }

    /** What stands between the first such fence and its end. */
    private static String block(String page, String kind) {
        int begin = page.indexOf("```" + kind + "\n") + kind.length() + 4;
        return page.substring(begin, page.indexOf("```", begin));
    }

    private static String run(List<String> words) throws IOException, InterruptedException {
        Process process = new ProcessBuilder(words).redirectError(ProcessBuilder.Redirect.INHERIT).start();
        String said = new String(process.getInputStream().readAllBytes(), StandardCharsets.UTF_8);
        int code = process.waitFor();
        return code == 0 ? said : said + "exit code " + code;
    }

    private static void remove(Path made) throws IOException {
        try (Stream<Path> all = Files.walk(made)) {
            for (Path path : all.sorted(Comparator.reverseOrder()).toList()) {
                Files.delete(path);
            }
        }
    }
}
