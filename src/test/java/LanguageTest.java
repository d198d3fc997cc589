import java.io.IOException;
import java.nio.file.Files;
import java.nio.file.Path;
import java.util.List;
import java.util.regex.Matcher;
import java.util.regex.Pattern;

/** What of LANGUAGE.md a look at the text of SkiHill.java can tell; run from the project's folder. */
public final class LanguageTest {
    private static final List<String> IMPORTS = List.of("java.util.ArrayList", "java.util.Arrays", "java.util.NoSuchElementException");
    private static final List<String> RULED_OUT = List.of(
        "->", "::", "\\bcatch\\b", "\\btry\\b", "\\bfinally\\b", "\\bsynchronized\\b", "\\bassert\\b", "\\bpackage\\b",
        "\\bprotected\\b", "\\bvar\\b", "\\bnative\\b", "\\bvolatile\\b", "\\btransient\\b", "\\bthread", "\\bThread\\b",
        "\\bSystem\\.(?!arraycopy)", "Exact\\(", "\\bgetClass\\b", "\\bhashCode\\b", "\\bString\\.", "\\bMath\\.(?!min|max|abs)",
        "\\bInteger\\.(?!bitCount)", "\\bArrays\\.(?!copyOf|fill)", "\\brandom", "\\bfor \\([^;]*;\\s*;");

    public static void main(String[] args) throws IOException {
        String source = Files.readString(Path.of("src/main/java/SkiHill.java"));
        String code = source.replaceAll("(?s)/\\*.*?\\*/", "").replaceAll("//[^\n]*", "").replaceAll("\"[^\"\n]*\"", "\"\"");
        for (String pattern : RULED_OUT) {
            Check.due("ruled out: " + pattern, Pattern.compile(pattern).matcher(code).find(), false);
        }
        Matcher imports = Pattern.compile("import ([\\w.]+);").matcher(code);
        while (imports.find()) {
            Check.due("import " + imports.group(1), IMPORTS.contains(imports.group(1)), true);
        }
        for (int k = 0; k < source.length(); k++) {
            char sign = source.charAt(k);
            if (sign != '\n' && (sign < 32 || sign > 126)) {
                Check.due("sign " + (int) sign + " at " + k, false, true);
            }
        }
        Matcher thrown = Pattern.compile("\\bthrow ([^;]*);").matcher(code);
        while (thrown.find()) {
            Check.due("throw " + thrown.group(1), thrown.group(1).matches("new \\w+Exception\\((\"\")?\\)"), true);
        }
        int classes = code.split("\\bclass\\b", -1).length - 1;
        Check.due("some twelve classes at most: " + classes, classes <= 12, true);
        longMethods(code);
        Check.close();
    }

    private static void longMethods(String code) {
        String[] lines = code.split("\n", -1);
        String head = "    (?:    )?(?! )[\\w.<>\\[\\] ]+\\([^;]*\\{";
        int begin = -1;
        for (int k = 0; k < lines.length; k++) {
            if (lines[k].matches(head)) {
                begin = k;
            } else if (begin >= 0 && lines[k].matches("    (?:    )?\\}")) {
                Check.due("method at line " + (begin + 1) + " of " + (k - begin) + " lines is short", k - begin <= 60, true);
                begin = -1;
            }
        }
    }
}
