import java.nio.charset.StandardCharsets;
import java.nio.file.Files;
import java.nio.file.Path;
import java.util.regex.Matcher;
import java.util.regex.Pattern;

/** What LANGUAGE.md rules out and can be seen in the class's own text; it runs in the project's folder. */
public final class LanguageTest {
    /** Of the library the class needs no more than these. */
    private static final String LIBRARY = "Integer\\.bitCount|Math\\.(max|min|abs)|System\\.arraycopy";
    private static final String[] RULED_OUT = {"import", "package", "try", "catch", "throw", "throws", "finally",
        "synchronized", "assert", "instanceof", "double", "protected", "native", "volatile", "transient", "var"};
    private static final int LONGEST_METHOD = 60;

    public static void main(String[] args) throws Exception {
        String source = Files.readString(Path.of("src/main/java/GuessingHall.java"), StandardCharsets.UTF_8);
        Checks.isTrue("its signs are 1 to 127", source.chars().allMatch(sign -> sign > 0 && sign < 128));
        String code = source.replaceAll("(?s)/\\*.*?\\*/", "").replaceAll("//[^\n]*", "");
        for (String word : RULED_OUT) {
            Checks.isTrue("no " + word, !Pattern.compile("\\b" + word + "\\b").matcher(code).find());
        }
        Checks.isTrue("no lambda, no method reference", !code.contains("->") && !code.contains("::"));
        Checks.isTrue("no annotation", !code.contains("@"));
        library(code);
        rowsAlone(code);
        longMethods(code);
        Checks.finish();
    }

    private static void library(String code) {
        Matcher used = Pattern.compile("\\b(Integer|Long|Math|System|Float|String|Arrays|Character)\\b[.]?\\w*").matcher(code);
        while (used.find()) {
            Checks.isTrue(used.group() + " is of the library", used.group().matches(LIBRARY));
        }
    }

    /** Cells of arrays are used behind a look at the index alone: in Row and in the History's ring. */
    private static void rowsAlone(String code) {
        Matcher used = Pattern.compile("(\\w+)\\[[^\\]]+\\]").matcher(code);
        while (used.find()) {
            Checks.isTrue(used.group() + " stands in a row or the ring",
                used.group(1).matches("cells|ring|int|State"));
        }
    }

    private static void longMethods(String code) {
        int start = -1;
        String[] lines = code.split("\n");
        for (int index = 0; index < lines.length; index++) {
            if (lines[index].matches("( {4}| {8})\\w.*\\) \\{")) {
                start = index;
            } else if (start >= 0 && lines[index].matches("( {4}| {8})\\}")) {
                Checks.isTrue("a short method: " + lines[start].trim(), index - start < LONGEST_METHOD);
                start = -1;
            }
        }
    }
}
