import java.nio.file.Files;
import java.nio.file.Path;
import java.util.List;
import java.util.regex.Matcher;
import java.util.regex.Pattern;

/** Rules of LANGUAGE.md that can be read off the source: run from the project's folder. */
public final class SourceTest {
    private static final Checks CHECKS = new Checks();
    private static final Path SOURCE = Path.of("src/main/java/FamineOfVerbs.java");

    private static String codeOf(String source) {
        return source.replaceAll("(?s)/\\*.*?\\*/", "").replaceAll("//[^\n]*", "")
                .replaceAll("\"[^\"\n]*\"", "\"\"").replaceAll("'[^'\n]*'", "' '");
    }

    private static void without(String code, String rule, String pattern) {
        Matcher found = Pattern.compile(pattern).matcher(code);
        CHECKS.due(rule + ": " + pattern, found.find() ? found.group() : "nothing", "nothing");
    }

    private static void forbiddenWords(String code) {
        without(code, "rule 4", "\\bimport\\b|\\bpackage\\b|\\bjava\\.");
        without(code, "rule 2", "->|::");
        without(code, "rule 4", "\\b(?!System\\b|Math\\b|Integer\\b|Text\\b|Land\\b|Standing\\b|Shelf\\b|Hearsay\\b|"
                + "String\\b|FamineOfVerbs\\b)[A-Z][a-z]\\w*");
        without(code, "rule 4", "Math\\.(?!max\\b|min\\b)\\w+|Integer\\.(?!bitCount\\b)\\w+|System\\.(?!arraycopy\\b)\\w+");
        without(code, "rule 6", "\\b(throw|try|catch|finally|synchronized|assert|instanceof)\\b");
        without(code, "rule 1", "\\bprotected\\b|\\bnative\\b|\\bvolatile\\b|\\btransient\\b");
        without(code, "rule 5", "static(?! final| \\w+(\\[\\])? \\w+\\()|static \\{");
        without(code, "rule 9", "\\bwhile\\b|\\bdo\\b");
    }

    /** Objects and rows are made in fields and constructors alone, since all calls share one room. */
    private static void madeOnce(String code) {
        int made = 0;
        for (String line : code.split("\n")) {
            if (line.contains("new ")) {
                made++;
                boolean once = line.contains("final") || line.contains("private Land") || line.contains("places[i] =");
                CHECKS.due("made once:" + line, once, true);
            }
        }
        CHECKS.due("something is made", made > 0, true);
    }

    private static void shortMethods(String source) {
        String[] lines = source.split("\n");
        int start = 0;
        for (int i = 0; i < lines.length; i++) {
            if (lines[i].matches(" {4}(?: {4})?\\S.*\\) \\{")) {
                start = i;
                CHECKS.due("parameters of" + lines[i], lines[i].split(",").length <= 7, true);
            } else if (lines[i].matches(" {4}(?: {4})?\\}")) {
                CHECKS.due("length of" + lines[start], i - start < 60, true);
            }
        }
    }

    public static void main(String[] args) throws Exception {
        String source = Files.readString(SOURCE);
        CHECKS.due("signs are 1 to 126", source.chars().allMatch(sign -> sign > 0 && sign < 127), true);
        forbiddenWords(codeOf(source));
        madeOnce(codeOf(source));
        shortMethods(source);
        Matcher classes = Pattern.compile("\\bclass \\w+").matcher(codeOf(source));
        CHECKS.due("twelve classes at most", classes.results().count() <= 12, true);
        CHECKS.due("known classes", List.of(FamineOfVerbs.class.getDeclaredClasses()).stream()
                .allMatch(inner -> java.lang.reflect.Modifier.isStatic(inner.getModifiers())), true);
        CHECKS.end();
    }
}
