import java.lang.reflect.Method;
import java.nio.charset.StandardCharsets;
import java.nio.file.Files;
import java.nio.file.Path;
import java.util.TreeSet;
import java.util.regex.Matcher;
import java.util.regex.Pattern;

/** The calls of the example in README.md, and the answers that it tells; run from the project's folder. */
public final class ReadmeTest {
    private static final Pattern MADE = Pattern.compile("NoWordNo x = new NoWordNo\\(\\);");
    private static final Pattern TYPED = Pattern.compile("type\\(x, \"([^\"]*)\"\\);");
    private static final Pattern CALLED = Pattern.compile("x\\.(\\w+)\\(([-0-9, ]*)\\); +// (-?\\d+): \\S.*");
    private static final String BEGIN = "```java\nNoWordNo x", END = "\n```";

    private static NoWordNo x = new NoWordNo();

    public static void main(String[] args) throws Exception {
        Checks.says("README.md: an example whose answers are the class's own");
        String readme = Files.readString(Path.of("README.md"), StandardCharsets.ISO_8859_1);
        int from = readme.indexOf(BEGIN);
        int to = readme.indexOf(END, from + 1);
        Checks.due("the example is there", from >= 0 && to > from ? 1 : 0, 1);
        TreeSet<String> asked = new TreeSet<>();
        asked.add("type");
        for (String line : from >= 0 && to > from ? readme.substring(from, to).split("\n") : new String[0]) {
            if (!line.startsWith("```") && !line.isEmpty()) {
                run(line, asked);
            }
        }
        Checks.due("calls told apart: " + asked, asked.size() >= 20 ? 1 : 0, 1);
        Checks.due("how to run the tests", readme.contains("bash .ci/run") ? 1 : 0, 1);
        Checks.end();
    }

    private static void run(String line, TreeSet<String> asked) throws Exception {
        Matcher typed = TYPED.matcher(line);
        Matcher called = CALLED.matcher(line);
        if (MADE.matcher(line).matches()) {
            x = new NoWordNo();
        } else if (typed.matches()) {
            Calls.type(x, typed.group(1));
        } else if (called.matches()) {
            asked.add(called.group(1));
            Checks.due(line, answer(called.group(1), called.group(2)), Long.parseLong(called.group(3)));
        } else {
            Checks.due("a line that is no call with its answer: " + line, 1, 0);
        }
    }

    /** All calls of the example but type() are given ints alone. */
    private static long answer(String name, String given) throws Exception {
        String[] words = given.isEmpty() ? new String[0] : given.split(", ");
        Object[] numbers = new Object[words.length];
        Class<?>[] kinds = new Class<?>[words.length];
        for (int i = 0; i < words.length; i++) {
            numbers[i] = Integer.valueOf(words[i]);
            kinds[i] = int.class;
        }
        Method call = NoWordNo.class.getMethod(name, kinds);
        return ((Number) call.invoke(x, numbers)).longValue();
    }
}
