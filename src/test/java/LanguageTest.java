import java.io.IOException;
import java.nio.file.Files;
import java.nio.file.Path;
import java.util.List;

/** What of ../shared/LANGUAGE.md a look at the lines of the class can tell. */
public final class LanguageTest {
    private static final String SOURCE = "src/main/java/PostingShelf.java";
    private static final List<String> IMPORTS = List.of("import java.util.ArrayList;", "import java.util.Arrays;");
    private static final String FORBIDDEN =
        "->|::|\\b(throw|try|finally|synchronized|assert|package|var|Object|System\\.out|double|float)\\b"
            + "|\\.(equals|hashCode|toString|stream|iterator)\\(|Exact\\(|static \\{";

    public static void main(String[] args) throws IOException {
        Check check = new Check();
        int number = 0;
        int methodStart = 0;
        for (String line : Files.readAllLines(Path.of(SOURCE))) {
            number++;
            String at = SOURCE + ":" + number + " ";
            String code = line.replaceAll("/?\\*.*|//.*", "");
            check.due(at + "plain characters", line.chars().allMatch(each -> each >= ' ' && each < 127), true);
            check.due(at + "an import that is listed", !code.startsWith("import") || IMPORTS.contains(code), true);
            check.due(at + "nothing forbidden", code.matches(".*(" + FORBIDDEN + ").*"), false);
            check.due(at + "static fields are final", code.matches(".*\\bstatic (?!final)[^(]*(=.*|;)"), false);
            if (code.matches(" {4}(| {4})(public |private |static )*[\\w\\[\\]<>]+ \\w+\\(.*\\{")) {
                methodStart = number;
            }
            if (code.matches(" {4}(| {4})\\}")) {
                check.due(at + "a method of at most sixty lines", methodStart == 0 || number - methodStart < 60, true);
                methodStart = 0;
            }
        }
        check.end();
    }
}
