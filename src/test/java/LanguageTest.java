import java.io.IOException;
import java.nio.file.Files;
import java.nio.file.Path;
import java.util.regex.Matcher;
import java.util.regex.Pattern;

/** Rules of LANGUAGE.md that can be seen in the text of the class. */
public final class LanguageTest {
    public static void main(String[] args) throws IOException {
        String source = Files.readString(Path.of("src/main/java/IvyHouse.java"));
        String code = source.replaceAll("(?s)/\\*.*?\\*/", "").replaceAll("//[^\n]*", "");
        String[] never = {"\\bthrows?\\b", "\\btry\\b", "\\bcatch\\b", "\\bsynchronized\\b", "\\bassert\\b", "->", "::",
            "\\bimport\\b", "\\bpackage\\b", "Exact\\b", "\\bstatic \\{", "\\bwhile\\b", "\\bString\\.", "java\\.",
            "\\bhashCode\\b", "\\btoString\\b", "\\bnull\\b", "\\(House\\)", "\\bvar\\b"};
        for (String word : never) {
            Check.due("'" + word + "' stands in it", Pattern.compile(word).matcher(code).find(), false);
        }
        Check.due("only plain signs", source.chars().allMatch(c -> c == 10 || c >= 32 && c < 127), true);
        Check.due("classes", count("\\b(class|enum|interface|record) [A-Z]", code) <= 12, true);
        Check.due("every class inside is private and static", count("\n    private static final class |\n    private enum ", code),
                count("\\b(class|enum) [A-Z]", code) - 1);
        Check.due("every loop counts", count("\\bfor \\(int ", code), count("\\bfor\\b", code));
        Check.end();
    }

    private static int count(String pattern, String code) {
        Matcher m = Pattern.compile(pattern).matcher(code);
        int many = 0;
        while (m.find()) {
            many++;
        }
        return many;
    }
}
