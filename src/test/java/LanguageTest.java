import java.io.IOException;
import java.nio.file.Files;
import java.nio.file.Path;
import java.util.ArrayList;
import java.util.List;
import java.util.regex.Matcher;
import java.util.regex.Pattern;

/** The rules of LANGUAGE.md that the class's text alone shows; FaceTest has those of its face. */
public final class LanguageTest {
    private static final String[] NOWHERE = {
        // Rules 2 and 4: no lambda, no method reference, none of those whose name ends in Exact.
        "->", "::", "Exact\\(",
        // Rule 5: no static initialiser block.
        "static \\{",
        // Rule 6: nothing is caught here, so that nothing of the machine's is either.
        "\\b(try|catch|finally|synchronized|assert)\\b", "\\b(equals|hashCode|toString)\\(", "extends \\w*Exception",
        // Rule 13: no clock, randomness, file, network, thread or environment.
        "\\bSystem\\b", "\\bThread\\b", "\\bRandom\\b",
        // Rule 10: texts are not joined by +.
        "\" \\+", "\\+ \"",
    };
    private static final String MADE_ONCE = "private final .* = new \\w+(\\(\\)|\\[.*\\]);";
    private static final String THROWN = "(default: )?throw new (IllegalStateException|IllegalArgumentException"
            + "|IndexOutOfBoundsException|UnsupportedOperationException)\\(\"[^\"]*\"\\);";
    private static final Pattern METHOD = Pattern.compile(
            "^ {4,8}(?:(?:public|private|static|final) )*[\\w\\[\\]]+ \\w+\\(([^)]*)\\)(?: throws [\\w, ]+)?(?: \\{)?$");
    private static final int MOST_LINES = 60;
    private static final int MOST_PARAMETERS = 7;
    private static final int MOST_CLASSES = 12;

    private final Expect expect = new Expect();
    private final List<String> lines;

    private LanguageTest(List<String> lines) {
        this.lines = lines;
    }

    public static void main(String[] args) throws IOException {
        new LanguageTest(withoutComments(Files.readAllLines(Path.of("src/main/java/RaidVault.java")))).look();
    }

    private static List<String> withoutComments(List<String> text) {
        List<String> lines = new ArrayList<>();
        boolean inComment = false;
        for (String line : text) {
            inComment = inComment || line.strip().startsWith("/*");
            lines.add(inComment || line.strip().startsWith("//") ? "" : line.replaceAll("\\s*//.*", ""));
            inComment = inComment && !line.contains("*/");
        }
        return lines;
    }

    private void look() {
        for (int i = 0; i < lines.size(); i++) {
            for (String pattern : NOWHERE) {
                boolean found = Pattern.compile(pattern).matcher(lines.get(i)).find();
                expect.same("line " + (i + 1) + " with " + pattern, found ? 1 : 0, 0);
            }
            rule4OneImport(i);
            rule12ObjectsAreMadeInFieldsOrThrown(i);
        }
        rule11MethodsAreShort();
        rule11Classes();
        expect.end();
    }

    private void rule4OneImport(int i) {
        String line = lines.get(i);
        if (line.startsWith("import ") || line.startsWith("package ")) {
            expect.same("rule 4: line " + (i + 1), line, "import java.util.Arrays;");
        }
    }

    /** No call makes an object then but for an exception, so the room's limit holds for every run. */
    private void rule12ObjectsAreMadeInFieldsOrThrown(int i) {
        String line = lines.get(i).strip();
        if (line.contains("new ")) {
            boolean fits = line.matches(MADE_ONCE) || line.matches(THROWN);
            expect.same("rules 6 and 12: line " + (i + 1) + ": " + line, fits ? 1 : 0, 1);
        }
    }

    private void rule11MethodsAreShort() {
        int methods = 0;
        for (int i = 0; i < lines.size(); i++) {
            Matcher head = METHOD.matcher(lines.get(i));
            if (head.matches()) {
                methods++;
                String name = "rule 11: line " + (i + 1) + ": " + lines.get(i).strip();
                expect.same(name, linesOfMethod(i) <= MOST_LINES ? 1 : 0, 1);
                expect.same(name, head.group(1).split(",").length <= MOST_PARAMETERS ? 1 : 0, 1);
            }
        }
        expect.same("methods are found", methods > 16 ? 1 : 0, 1);
    }

    /** A method ends with a brace as far in as its head begins. */
    private int linesOfMethod(int head) {
        String line = lines.get(head);
        String end = line.substring(0, line.indexOf(line.strip())) + "}";
        int i = head;
        while (i < lines.size() && !lines.get(i).equals(end)) {
            i++;
        }
        return i - head + 1;
    }

    private void rule11Classes() {
        int classes = 0;
        for (String line : lines) {
            if (line.matches(".*\\b(class|record|enum|interface)\\b.*\\{")) {
                classes++;
            }
        }
        expect.same("rule 11: " + classes + " classes", classes > 0 && classes <= MOST_CLASSES ? 1 : 0, 1);
    }
}
