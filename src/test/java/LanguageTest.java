import java.nio.file.Files;
import java.nio.file.Path;
import java.util.List;
import java.util.regex.Matcher;
import java.util.regex.Pattern;

/** Some rules of LANGUAGE.md that the class's own text can be held against. */
public final class LanguageTest {
    private static final String[] NEVER = {"->", "::", "\\bcatch\\b", "\\bfinally\\b", "\\bsynchronized\\b",
        "\\bassert\\b", "\\bstatic \\{", "\\bpackage\\b", "\\w+Exact\\(", "\\b(hashCode|toString|getMessage)\\b",
        "\\bjava\\.(?!util\\.NoSuchElementException;)", "\" \\+", "\\+ \"", "\\bprotected\\b"};

    public static void main(String[] args) throws Exception {
        List<String> lines = Files.readAllLines(Path.of("src/main/java/LostCauses.java"));
        for (int i = 0; i < lines.size(); i++) {
            String line = lines.get(i);
            for (String never : NEVER) {
                Check.due(never + " in line " + (i + 1), Pattern.compile(never).matcher(line).find(), false);
            }
            for (int j = 0; j < line.length(); j++) {
                Check.due("a sign above 127 in line " + (i + 1), line.charAt(j) > 127, false);
            }
        }
        methodsAreShort(lines);
        Check.finish();
    }

    /** A method begins at a line that is indented by 4 or 8 and ends with a brace; its end is indented likewise. */
    private static void methodsAreShort(List<String> lines) {
        Pattern head = Pattern.compile("( {4}| {8})(?!\\s)(?!.*\\b(class|enum)\\b).*\\).*\\{");
        for (int i = 0; i < lines.size(); i++) {
            Matcher matcher = head.matcher(lines.get(i));
            if (matcher.matches()) {
                int end = lines.subList(i, lines.size()).indexOf(matcher.group(1) + "}");
                Check.due("lines of the method at line " + (i + 1) + " above 60", end > 60, false);
            }
        }
    }
}
