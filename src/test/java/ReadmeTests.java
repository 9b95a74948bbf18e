import java.io.File;
import java.io.IOException;
import java.lang.reflect.Method;
import java.lang.reflect.Modifier;
import java.nio.file.Files;
import java.nio.file.Path;

/** The program in README.md compiles and prints what stands there, and no call goes unnamed. */
public final class ReadmeTests {
    private ReadmeTests() {
    }

    public static void main(String[] args) throws IOException, InterruptedException {
        Check.at("README.md");
        String page = Files.readString(Path.of("README.md"));
        String printed = outcome(block(page, "java"));
        Check.due("it prints\n" + printed, printed.strip().equals(block(page, "text").strip()), true);
        for (Method method : DoorTongue.class.getDeclaredMethods()) {
            if (Modifier.isPublic(method.getModifiers())) {
                String name = method.getName();
                Check.due(name + " is named", page.contains('`' + name + '`') || page.contains('`' + name + '('), true);
            }
        }
        System.exit(Check.close("ReadmeTests"));
    }

    private static String block(String page, String kind) {
        String begin = "```" + kind + "\n";
        int from = page.indexOf(begin) + begin.length();
        return page.substring(from, page.indexOf("```", from));
    }

    /** What javac has to say of the program, and what it prints. */
    private static String outcome(String program) throws IOException, InterruptedException {
        Path folder = Files.createTempDirectory("readme");
        Path file = Files.writeString(folder.resolve("Example.java"), program);
        String classes = System.getProperty("java.class.path");
        try {
            return run("javac", "-Xlint:all", "-cp", classes, "-d", folder.toString(), file.toString())
                + run("java", "-cp", classes + File.pathSeparator + folder, "Example");
        } finally {
            Files.delete(file);
            Files.deleteIfExists(folder.resolve("Example.class"));
            Files.delete(folder);
        }
    }

    private static String run(String... command) throws IOException, InterruptedException {
        Process process = new ProcessBuilder(command).redirectErrorStream(true).start();
        String printed = new String(process.getInputStream().readAllBytes());
        Check.due(command[0] + " ends with", process.waitFor(), 0);
        return printed;
    }
}
