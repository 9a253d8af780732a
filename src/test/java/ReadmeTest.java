import java.lang.reflect.Method;
import java.nio.file.Files;
import java.nio.file.Path;
import java.util.Arrays;
import java.util.List;
import java.util.regex.Matcher;
import java.util.regex.Pattern;

/** Carries out the example of README.md: each of its calls answers what stands behind it. */
public final class ReadmeTest {
    private static final String MAKING = "StackCompiler s = new StackCompiler();";
    private static final Pattern CALL = Pattern.compile(
            "s\\.(?<name>\\w+)\\((?<numbers>[-0-9, ]*)\\);(\\s*// (?<answer>-?\\w+)(:.*)?)?");

    public static void main(String[] args) throws Exception {
        List<String> lines = Files.readAllLines(Path.of("README.md"));
        int begin = lines.indexOf("```java") + 1;
        Checks.due("README.md has an example", begin > 0 && lines.get(begin).equals(MAKING), true);
        StackCompiler s = new StackCompiler();
        int calls = 0;
        for (int i = begin + 1; i < lines.size() && !lines.get(i).equals("```"); i++) {
            if (!lines.get(i).isBlank()) {
                carryOut(s, i + 1, lines.get(i));
                calls++;
            }
        }
        Checks.due("README.md has an example with calls", calls > 0, true);
        Checks.finish();
    }

    private static void carryOut(StackCompiler s, int number, String line) throws Exception {
        Checks.about("README.md line " + number);
        Matcher call = CALL.matcher(line);
        if (!call.matches()) {
            Checks.due("a call with its answer: " + line, false, true);
            return;
        }
        Object[] numbers = Pattern.compile(", ").splitAsStream(call.group("numbers"))
                .filter(word -> !word.isEmpty()).map(Integer::valueOf).toArray();
        Object answer = method(call.group("name"), numbers.length).invoke(s, numbers);
        String told = call.group("answer");
        Checks.due("an answer told where there is one: " + line, told != null, answer != null);
        if (told != null && answer != null) {
            Checks.due(line, asNumber(answer.toString()), asNumber(told));
        }
    }

    private static Method method(String name, int parameters) throws Exception {
        Class<?>[] types = new Class<?>[parameters];
        Arrays.fill(types, int.class);
        return StackCompiler.class.getMethod(name, types);
    }

    /** A number, true or false, or the name of a constant of the class. */
    private static long asNumber(String word) throws Exception {
        if (word.equals("true") || word.equals("false")) {
            return word.equals("true") ? 1 : 0;
        }
        return word.matches("-?\\d+") ? Long.parseLong(word) : StackCompiler.class.getField(word).getInt(null);
    }
}
