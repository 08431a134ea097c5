import java.io.ByteArrayOutputStream;
import java.io.PrintStream;
import java.nio.file.Files;
import java.nio.file.Path;

/** README.md shows the example as it stands in Example.java, and what it prints. */
public final class ReadmeTest {
    public static void main(String[] args) throws Exception {
        String readme = Files.readString(Path.of("README.md"));
        String example = Files.readString(Path.of("src/test/java/Example.java"));
        String body = example.substring(example.indexOf("public final class"));
        Due.yes("the example", readme.contains("```java\n" + body + "```\n"));
        Due.yes("what it prints:\n" + printed(), readme.contains("```text\n" + printed() + "```\n"));
        Due.yes("how to run the tests", readme.contains(".ci/run"));
        Due.end();
    }

    private static String printed() {
        PrintStream before = System.out;
        ByteArrayOutputStream bytes = new ByteArrayOutputStream();
        System.setOut(new PrintStream(bytes, true));
        try {
            Example.main(new String[0]);
        } finally {
            System.setOut(before);
        }
        return bytes.toString().replace(System.lineSeparator(), "\n");
    }
}
