import java.io.ByteArrayOutputStream;
import java.io.IOException;
import java.io.PrintStream;
import java.nio.charset.StandardCharsets;
import java.nio.file.Files;
import java.nio.file.Path;

/** The example that README.md shows is the one that is compiled here, and prints what README.md says. */
public final class ReadmeTests {
    public static void main(String[] args) throws IOException {
        String readme = Files.readString(Path.of("README.md"));
        String example = Files.readString(Path.of("src/test/java/Example.java"));
        Check.dueText("the program in README.md", block(readme, "java"), example);
        Check.dueText("the lines in README.md", block(readme, "text"), printedByExample());
        Check.end();
    }

    /** The first block of this kind; empty if there is none. */
    private static String block(String page, String kind) {
        String opening = "```" + kind + "\n";
        int begin = page.indexOf(opening);
        int end = page.indexOf("```", begin + opening.length());
        return begin < 0 || end < 0 ? "" : page.substring(begin + opening.length(), end);
    }

    private static String printedByExample() {
        PrintStream before = System.out;
        ByteArrayOutputStream printed = new ByteArrayOutputStream();
        System.setOut(new PrintStream(printed, true, StandardCharsets.UTF_8));
        try {
            Example.main(new String[0]);
        } finally {
            System.setOut(before);
        }
        return printed.toString(StandardCharsets.UTF_8).replace(System.lineSeparator(), "\n");
    }
}
