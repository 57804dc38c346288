import java.lang.reflect.Method;
import java.nio.file.Files;
import java.nio.file.Path;
import java.util.regex.Matcher;
import java.util.regex.Pattern;

/** The example of README.md answers as its comments say: run from the project's folder. */
public final class ReadmeTest {
    private static final Checks CHECKS = new Checks();
    private static final Pattern ROW = Pattern.compile("land\\.(\\w+)\\(([-0-9, ]*)\\); +// (-?\\d+):");

    private static int answerOf(FamineOfVerbs land, String name, String numbers) throws Exception {
        String[] words = numbers.isEmpty() ? new String[0] : numbers.split(", ");
        Object[] arguments = new Object[words.length];
        Class<?>[] types = new Class<?>[words.length];
        for (int i = 0; i < words.length; i++) {
            arguments[i] = Integer.parseInt(words[i]);
            types[i] = int.class;
        }
        Method call = FamineOfVerbs.class.getMethod(name, types);
        return (Integer) call.invoke(land, arguments);
    }

    /** The tables name each call of the face, and no other. */
    private static void namesAll(String readme) {
        for (Method method : FamineOfVerbs.class.getDeclaredMethods()) {
            if (java.lang.reflect.Modifier.isPublic(method.getModifiers())) {
                CHECKS.due("README names " + method.getName(), readme.contains("`" + method.getName() + "`"), true);
            }
        }
    }

    public static void main(String[] args) throws Exception {
        String readme = Files.readString(Path.of("README.md"));
        Matcher text = Pattern.compile("\"(v[^\"]*;)\"").matcher(readme);
        CHECKS.due("a text is told", text.find(), true);
        FamineOfVerbs land = Checks.written(text.group(1));
        Matcher row = ROW.matcher(readme);
        int rows = 0;
        while (row.find()) {
            rows++;
            CHECKS.due(row.group(), answerOf(land, row.group(1), row.group(2)), Integer.parseInt(row.group(3)));
        }
        CHECKS.due("rows of the example", rows, 12);
        namesAll(readme);
        CHECKS.end();
    }
}
