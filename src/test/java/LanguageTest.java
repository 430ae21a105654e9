import java.nio.file.Files;
import java.nio.file.Path;
import java.util.List;
import java.util.regex.Matcher;
import java.util.regex.Pattern;

/** Some rules of LANGUAGE.md that a look at the source can hold; it is run from the project's directory. */
public final class LanguageTest {
    private static final String[] FORBIDDEN = {"->", "::", "\\bfinally\\b", "\\bsynchronized\\b", "\\bassert\\b",
        "\\bpackage\\b", "static \\{", "\\btry\\b", "\\bSystem\\.(?!arraycopy)", "\\bObject\\b", "\\btoString\\b",
        "\\bhashCode\\b", "\\bMath\\.\\w*Exact\\b", "\\bRandom\\b", "\\bThread\\b", "\\bStream\\b", "\\bvar\\b",
        "\\bdouble\\b", "\\bfloat\\b", "\" \\+ ", " \\+ \"", "while \\(true\\)", "for \\(;;\\)"};

    public static void main(String[] args) throws Exception {
        List<String> lines = Files.readAllLines(Path.of("src/main/java/GameHall.java"));
        int number = 0;
        for (String line : lines) {
            number++;
            String code = line.replaceAll("//.*|^\\s*/?\\*.*", "");
            for (String word : FORBIDDEN) {
                Check.due("line " + number + " has " + word, Pattern.compile(word).matcher(code).find(), false);
            }
            if (code.startsWith("import")) {
                Check.due("line " + number, code, "import java.util.Arrays;");
            }
            Check.due("line " + number + " has signs 1 to 127", line.chars().allMatch(c -> c > 0 && c < 128), true);
        }
        lengths(lines);
        Check.end("LanguageTest");
    }

    /** Methods stay short: a method begins with its head's brace and ends with one as far in. */
    private static void lengths(List<String> lines) {
        Pattern head = Pattern.compile("^( +)(?!.*\\b(class|new|if|for|while|switch|else|return)\\b).*\\).*\\{$");
        int start = -1;
        String indent = "";
        for (int k = 0; k < lines.size(); k++) {
            Matcher matcher = head.matcher(lines.get(k));
            if (start < 0 && matcher.matches()) {
                start = k;
                indent = matcher.group(1);
            } else if (start >= 0 && lines.get(k).equals(indent + "}")) {
                Check.due("the method at line " + (start + 1) + " is short", k - start < 60, true);
                start = -1;
            }
        }
    }
}
