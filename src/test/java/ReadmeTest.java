import java.io.ByteArrayOutputStream;
import java.io.IOException;
import java.io.PrintStream;
import java.lang.reflect.Method;
import java.lang.reflect.Modifier;
import java.nio.charset.StandardCharsets;
import java.nio.file.DirectoryStream;
import java.nio.file.Files;
import java.nio.file.Path;

/** README.md is as the class and its tests are: what it says of them is run, or looked for. */
public final class ReadmeTest {
    private static final Due DUE = new Due("ReadmeTest");

    /** The text of the first block of that kind, or an empty one. */
    private static String block(String readme, String kind) {
        String start = "```" + kind + "\n";
        int from = readme.indexOf(start);
        int to = from < 0 ? -1 : readme.indexOf("```", from + start.length());
        return to < 0 ? "" : readme.substring(from + start.length(), to);
    }

    private static String printedByExample() {
        ByteArrayOutputStream bytes = new ByteArrayOutputStream();
        PrintStream console = System.out;
        System.setOut(new PrintStream(bytes, true, StandardCharsets.UTF_8));
        try {
            ReadmeExample.main(new String[0]);
        } finally {
            System.setOut(console);
        }
        return bytes.toString(StandardCharsets.UTF_8).replace("\r\n", "\n");
    }

    private static void example(String readme) throws IOException {
        String source = Files.readString(Path.of("src/test/java/ReadmeExample.java"));
        DUE.is("the example is the one that is compiled", block(readme, "java").equals(source) ? 1 : 0, 1);
        String printed = printedByExample();
        DUE.is("the example prints what stands there, not " + printed, block(readme, "text").equals(printed) ? 1 : 0, 1);
    }

    private static void everyCall(String readme) {
        for (Method m : ContactHouse.class.getDeclaredMethods()) {
            if (Modifier.isPublic(m.getModifiers())) {
                DUE.is(m.getName() + " is named", readme.contains("`" + m.getName() + "`") ? 1 : 0, 1);
            }
        }
    }

    private static void everyTest(String readme) throws IOException {
        try (DirectoryStream<Path> files = Files.newDirectoryStream(Path.of("src/test/java"), "*Test.java")) {
            for (Path file : files) {
                String name = file.getFileName().toString().replace(".java", "");
                DUE.is(name + " is named", readme.contains("| `" + name + "` |") ? 1 : 0, 1);
            }
        }
    }

    public static void main(String[] args) throws IOException {
        String readme = Files.readString(Path.of("README.md"));
        example(readme);
        everyCall(readme);
        everyTest(readme);
        DUE.end();
    }
}
