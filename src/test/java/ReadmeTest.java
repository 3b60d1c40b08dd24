import java.io.IOException;
import java.lang.reflect.Field;
import java.lang.reflect.Method;
import java.lang.reflect.Modifier;
import java.nio.file.Files;
import java.nio.file.Path;
import java.util.regex.Matcher;
import java.util.regex.Pattern;

/** README.md holds for a reader who has nothing else: its example does what it says, and no call is left out. */
public final class ReadmeTest {
    private static final String SOURCE = "src/main/java/ClosureCompiler.java";

    private static int wrong = 0;

    private static void check(boolean holds, String fault) {
        if (!holds) {
            wrong++;
            System.out.println(fault);
        }
    }

    public static void main(String[] args) throws IOException, InterruptedException {
        String readme = Files.readString(Path.of("README.md"));
        checkExample(block(readme, "java"), block(readme, "text"));
        checkCallsAndConstants(readme);
        System.out.println(wrong == 0 ? "README.md holds" : wrong + " faults in README.md");
        if (wrong != 0) {
            System.exit(1);
        }
    }

    private static String block(String readme, String kind) {
        Matcher blocks = Pattern.compile("(?s)```" + kind + "\n(.*?)```").matcher(readme);
        boolean found = blocks.find();
        check(found, "README.md has no block of " + kind);
        return found ? blocks.group(1) : "";
    }

    private static void checkExample(String example, String promised) throws IOException, InterruptedException {
        Path directory = Files.createTempDirectory("readme");
        Path file = directory.resolve("Example.java");
        Path output = directory.resolve("output");
        String classes = directory.toString();
        Files.writeString(file, example);
        int compiled = command(output, "javac", "-Xlint:all", "-Werror", "-d", classes, SOURCE, file.toString());
        check(compiled == 0, "the example does not compile");
        int ended = command(output, "java", "-cp", classes, "Example");
        check(ended == 0, "the example ends with exit code " + ended);
        String printed = Files.readString(output).replace(System.lineSeparator(), "\n");
        check(printed.equals(promised), "the example prints\n" + printed + "and README.md says\n" + promised);
        for (String made : new String[] {"Example.java", "output", "Example.class", "ClosureCompiler.class", ""}) {
            Files.deleteIfExists(directory.resolve(made));
        }
    }

    private static int command(Path output, String... words) throws IOException, InterruptedException {
        ProcessBuilder process = new ProcessBuilder(words).redirectError(ProcessBuilder.Redirect.INHERIT);
        return process.redirectOutput(output.toFile()).start().waitFor();
    }

    private static void checkCallsAndConstants(String readme) {
        for (Method method : ClosureCompiler.class.getDeclaredMethods()) {
            boolean named = readme.contains("`" + method.getName() + "(");
            check(!Modifier.isPublic(method.getModifiers()) || named, "README.md leaves out " + method.getName());
        }
        for (Field field : ClosureCompiler.class.getFields()) {
            String told = "`" + field.getName() + "` (" + valueOf(field) + ")";
            check(readme.contains(told), "README.md does not say " + told);
        }
    }

    private static int valueOf(Field constant) {
        try {
            return constant.getInt(null);
        } catch (IllegalAccessException unseen) {
            throw new AssertionError(unseen);
        }
    }
}
