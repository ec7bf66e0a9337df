import java.io.IOException;
import java.nio.file.Files;
import java.nio.file.Path;
import java.util.List;
import java.util.Set;
import java.util.regex.Matcher;
import java.util.regex.Pattern;

/** Those rules of ../shared/LANGUAGE.md that a look at the text can find broken (run from the project's folder). */
public final class LanguageTest {
    private static final Due due = new Due("LanguageTest");
    private static final Path SOURCE = Path.of("src/main/java/LooseHeap.java");
    private static final Set<String> IMPORTS = Set.of("import java.util.Arrays;");
    private static final String[] WORDS = {"package", "throw", "throws", "try", "catch", "finally", "synchronized", "assert", "transient", "volatile", "native", "instanceof",
        "Object", "Float", "Double", "Random", "Thread", "Exception", "hashCode", "toString", "getClass", "var", "protected"};
    private static final int LONGEST_METHOD = 60;
    private static final Pattern METHOD = Pattern.compile("^(    |        )(public |private |static |final )*[\\w\\[\\]]+ ?\\w*\\((.*)\\) \\{$");

    private static String withoutComments(String text) {
        return text.replaceAll("(?s)/\\*.*?\\*/", "").replaceAll("//[^\n]*", "");
    }

    private static void words(String code) {
        for (String word : WORDS) {
            due.holds(0, "no '" + word + "'", !Pattern.compile("\\b" + word + "\\b").matcher(code).find());
        }
        due.holds(0, "no lambda and no method reference", !code.contains("->") && !code.contains("::"));
        due.holds(0, "no text", !code.contains("\""));
        due.holds(0, "no function that ends in Exact", !code.contains("Exact("));
        due.holds(0, "no field that is static and not final", !Pattern.compile("static (?!final )[\\w\\[\\]]+ \\w+( =|;)").matcher(code).find());
        due.holds(0, "no class inside that is not static", !Pattern.compile("\n +(private )?(final )?class ").matcher(code).find());
        Matcher imports = Pattern.compile("(?m)^import .*$").matcher(code);
        while (imports.find()) {
            due.holds(0, imports.group(), IMPORTS.contains(imports.group()));
        }
    }

    private static void signs(String text) {
        boolean plain = true;
        for (int i = 0; i < text.length(); i++) {
            plain = plain && text.charAt(i) >= 1 && text.charAt(i) <= 127;
        }
        due.holds(0, "signs 1 to 127 alone", plain);
    }

    private static void methods(List<String> lines) {
        int found = 0;
        for (int i = 0; i < lines.size(); i++) {
            Matcher start = METHOD.matcher(lines.get(i));
            if (start.matches()) {
                found++;
                int end = i;
                while (end < lines.size() && !lines.get(end).equals(start.group(1) + "}")) {
                    end++;
                }
                due.holds(0, "at most " + LONGEST_METHOD + " lines: " + lines.get(i).trim(), end - i < LONGEST_METHOD);
                due.holds(0, "at most seven parameters: " + lines.get(i).trim(), start.group(3).split(",").length <= 7);
            }
        }
        due.holds(0, "methods were found", found > 50);
    }

    public static void main(String[] args) throws IOException {
        String text = Files.readString(SOURCE);
        words(withoutComments(text));
        signs(text);
        methods(Files.readAllLines(SOURCE));
        due.end();
    }
}
