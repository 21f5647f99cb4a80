import java.io.IOException;
import java.nio.file.Files;
import java.nio.file.Path;
import java.util.regex.Matcher;
import java.util.regex.Pattern;

/** Rules of LANGUAGE.md that can be seen from the words of the file; the first argument is its path. */
public final class LanguageTest {
    private static final String[] WORDS = {
        "throw", "throws", "try", "catch", "finally", "synchronized", "volatile", "assert", "package", "import", "native",
        "transient", "protected", "instanceof", "record", "var", "yield", "Object", "Exception", "Error", "Thread",
        "Random", "Map", "Set", "Optional", "Stream", "float", "double", "toString", "equals", "hashCode",
    };

    public static void main(String[] args) throws IOException {
        String source = Files.readString(Path.of(args.length > 0 ? args[0] : "src/main/java/CrustBlocks.java"));
        String code = source.replaceAll("(?s)/\\*.*?\\*/", "").replaceAll("//[^\n]*", "");
        for (String word : WORDS) {
            Checks.due("rule 3, 4 or 6: " + word, Pattern.compile("\\b" + word + "\\b").matcher(code).find() ? 1 : 0, 0);
        }
        Checks.due("rule 2: no lambda", code.contains("->") ? 1 : 0, 0);
        Checks.due("rule 2: no method reference", code.contains("::") ? 1 : 0, 0);
        Checks.due("no text", code.contains("\"") ? 1 : 0, 0);
        Checks.due("signs of the source are 1 to 127", source.chars().allMatch(sign -> sign > 0 && sign < 128) ? 1 : 0, 1);
        staticFields(code);
        library(code);
        lengths(source);
        Checks.end();
    }

    private static void staticFields(String code) {
        Matcher found = Pattern.compile("\\bstatic\\b([^;{(=]*)([;{(=])").matcher(code);
        while (found.find()) {
            boolean field = found.group(2).equals("=") || found.group(2).equals(";");
            Checks.due("rule 5: static" + found.group(1), !field || found.group(1).contains("final ") ? 1 : 0, 1);
            Checks.due("rule 5: no static block", found.group(1).isBlank() ? 1 : 0, 0);
        }
    }

    private static void library(String code) {
        Matcher found = Pattern.compile("\\b(System|Math|Integer|Long|Arrays)\\.(\\w+)").matcher(code);
        while (found.find()) {
            Checks.due("rule 4: " + found.group(), found.group().matches(
                "System\\.arraycopy|Math\\.(min|max)|Integer\\.compare") ? 1 : 0, 1);
        }
    }

    /** A method begins at a line that ends with "{" behind its parameters, and ends at the brace below its first letter. */
    private static void lengths(String source) {
        String[] lines = source.split("\n");
        Pattern head = Pattern.compile("^( +)(?!.*\\b(if|for|while|switch|else|class|new)\\b)[\\w\\[\\] ]+\\(([^()]*)\\) \\{$");
        int classes = 0;
        for (int n = 0; n < lines.length; n++) {
            classes += lines[n].matches(".*\\bclass \\w+ \\{") ? 1 : 0;
            Matcher found = head.matcher(lines[n]);
            if (!found.matches()) {
                continue;
            }
            int end = n;
            while (end < lines.length && !lines[end].equals(found.group(1) + "}")) {
                end++;
            }
            Checks.due("rule 11: at most 60 lines: " + lines[n].trim(), end - n + 1 <= 60 ? 1 : 0, 1);
            Checks.due("rule 11: at most seven parameters: " + lines[n].trim(), found.group(3).split(",").length <= 7 ? 1 : 0, 1);
        }
        Checks.due("rule 11: at most twelve classes", classes >= 1 && classes <= 12 ? 1 : 0, 1);
    }
}
