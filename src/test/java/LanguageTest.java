import java.nio.file.Files;
import java.nio.file.Path;

/** That the class keeps to the plainest rules of LANGUAGE.md: words and signs that it may not have. */
public final class LanguageTest {
    public static void main(String[] args) throws Exception {
        String source = Files.readString(Path.of("src/main/java/RefactorHouse.java"));
        // Without remarks, texts and signs in ' '.
        String code = source.replaceAll("(?s)/\\*.*?\\*/", " ").replaceAll("//[^\n]*", " ")
            .replaceAll("\"[^\"\n]*\"", "\"\"").replaceAll("'[^'\n]'", "' '");
        for (String word : new String[] {"throw", "throws", "try", "catch", "finally", "synchronized", "assert", "volatile", "transient",
            "native", "hashCode", "toString", "Object", "System.out", "Exception", "yield", "var", "record", "sealed", "protected"}) {
            House.due("the word " + word, code.matches("(?s).*\\b" + word.replace(".", "\\.") + "\\b.*") ? 1 : 0, 0);
        }
        for (String sign : new String[] {"->", "::", "\"\" +", "+ \"\"", "@"}) {
            House.due("the sign " + sign, code.contains(sign) ? 1 : 0, 0);
        }
        String imports = code.replaceAll("(?m)^(?!import).*$", "").replaceAll("\\s+", " ").trim();
        House.due("imports", imports, "import java.util.Arrays;");
        House.due("no package", code.contains("\npackage ") ? 1 : 0, 0);
        House.due("classes, the public one too", code.split("\\bclass [A-Z]").length - 1, 12);
        methods(code);
        House.end("LanguageTest");
    }

    /** No method of more than sixty lines or seven parameters. */
    private static void methods(String code) {
        String[] lines = code.split("\n", -1);
        int begin = -1;
        String indent = "";
        for (int i = 0; i < lines.length; i++) {
            String l = lines[i];
            boolean isHead = l.matches("( {4}| {8})[\\w<>\\[\\] ]+\\([^;]*\\) \\{") && !l.trim().matches("(if|for|while|switch|else|return)\\b.*");
            if (isHead) {
                begin = i;
                indent = l.substring(0, l.length() - l.trim().length());
                House.due("params of " + l.trim(), l.split(",").length > 7 ? 1 : 0, 0);
            } else if (begin >= 0 && l.equals(indent + "}")) {
                House.due("lines of " + lines[begin].trim(), i - begin > 60 ? 1 : 0, 0);
                begin = -1;
            }
        }
    }
}
