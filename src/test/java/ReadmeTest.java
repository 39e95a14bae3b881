import java.io.ByteArrayOutputStream;
import java.io.File;
import java.io.IOException;
import java.io.PrintStream;
import java.lang.reflect.Field;
import java.lang.reflect.Method;
import java.lang.reflect.Modifier;
import java.nio.file.Files;
import java.nio.file.Path;
import java.util.ArrayList;
import java.util.List;

/** What README.md tells: its example is Example.java and answers as it says; no call, constant or test is left out. */
final class ReadmeTest {
    private static final String TESTS = "src/test/java";

    public static void main(String[] args) throws IOException {
        String readme = Files.readString(Path.of("README.md"));
        String example = Files.readString(Path.of(TESTS, "Example.java"));
        Check.due("README.md shows Example.java", true, readme.contains("```java\n" + example + "```\n"));
        Check.due("what Example prints", answersIn(example).toString(), printed().toString());
        for (Method method : TaylorModels.class.getDeclaredMethods()) {
            if (Modifier.isPublic(method.getModifiers())) {
                Check.due("README.md tells of " + method.getName(), true, readme.contains("`" + method.getName()));
            }
        }
        for (Field field : TaylorModels.class.getFields()) {
            Check.due("README.md tells of " + field.getName(), true, readme.contains("`" + field.getName() + "`"));
        }
        String[] files = new File(TESTS).list();
        for (String file : files == null ? new String[0] : files) {
            String name = file.replace(".java", "");
            Check.due("README.md tells of " + name, true, readme.contains("`" + name + "`"));
        }
        Check.due("README.md tells how to run the tests", true, readme.contains("\n    .ci/run\n"));
        Check.finish("ReadmeTest");
    }

    /** The answer stands in the comment behind the line that prints it, before a colon. */
    private static List<String> answersIn(String example) {
        List<String> answers = new ArrayList<>();
        for (String line : example.split("\n")) {
            int comment = line.indexOf(" // ");
            if (line.contains("println(") && comment >= 0) {
                answers.add(line.substring(comment + 4).split(":")[0]);
            }
        }
        return answers;
    }

    private static List<String> printed() {
        PrintStream before = System.out;
        ByteArrayOutputStream bytes = new ByteArrayOutputStream();
        System.setOut(new PrintStream(bytes, true));
        try {
            Example.main(new String[0]);
        } finally {
            System.setOut(before);
        }
        return bytes.toString().lines().toList();
    }
}
