import java.io.IOException;
import java.lang.reflect.Method;
import java.nio.file.Files;
import java.nio.file.Path;
import java.util.HashMap;
import java.util.Map;
import java.util.regex.Matcher;
import java.util.regex.Pattern;

/** Each line of the example in README.md answers what stands beside it. */
public final class ReadmeTest {
    private static final String MADE = "LanguageTags x = new LanguageTags();";
    private static final Pattern TYPED =
            Pattern.compile("for \\(char c : \"(.*)\"\\.toCharArray\\(\\)\\) x\\.type\\(c\\);");
    private static final Pattern CALLED = Pattern.compile(
            "(?:int (\\w+) = )?x\\.(\\w+)\\((.*)\\);(?: +// ([^:]+)(?:: (.*))?)?");
    private static final Pattern QUOTED = Pattern.compile("\"(.*)\"");

    private final LanguageTags x = new LanguageTags();
    private final Map<String, Integer> numbers = new HashMap<>();

    private ReadmeTest() {
    }

    public static void main(String[] args) throws IOException, ReflectiveOperationException {
        String text = Files.readString(Path.of("README.md"));
        String[] blocks = text.split("```java\n");
        Checks.due("examples in README.md", blocks.length - 1, 1);
        ReadmeTest example = new ReadmeTest();
        for (String line : blocks[blocks.length - 1].split("```")[0].split("\n")) {
            example.follow(line);
        }
        Checks.finish();
    }

    private void follow(String line) throws ReflectiveOperationException {
        Matcher typed = TYPED.matcher(line);
        Matcher called = CALLED.matcher(line);
        if (typed.matches()) {
            for (char c : typed.group(1).toCharArray()) {
                Checks.due(line, x.type(c), true);
            }
        } else if (called.matches()) {
            call(line, called);
        } else {
            boolean nothing = line.isEmpty() || line.startsWith("// ") || line.equals(MADE);
            Checks.due(line + " is understood", nothing, true);
        }
    }

    private void call(String line, Matcher called) throws ReflectiveOperationException {
        Object answer = answerOf(called.group(2), called.group(3));
        if (called.group(1) != null) {
            numbers.put(called.group(1), (Integer) answer);
        }
        String told = answer instanceof Character ? "'" + answer + "'" : String.valueOf(answer);
        Checks.due(line, told, String.valueOf(called.group(4)));
        Matcher quoted = QUOTED.matcher(String.valueOf(called.group(5)));
        if (quoted.find()) {
            Checks.due(line, shown(), quoted.group(1));
        }
    }

    private Object answerOf(String name, String given) throws ReflectiveOperationException {
        String[] words = given.isEmpty() ? new String[0] : given.split(", ");
        for (Method method : LanguageTags.class.getMethods()) {
            if (method.getName().equals(name)) {
                Object[] values = new Object[words.length];
                for (int i = 0; i < words.length; i++) {
                    values[i] = valueOf(words[i]);
                }
                return method.invoke(x, values);
            }
        }
        return "no such call";
    }

    private Object valueOf(String word) {
        if (word.equals("true") || word.equals("false")) {
            return word.equals("true");
        }
        return numbers.containsKey(word) ? numbers.get(word) : Integer.valueOf(word);
    }

    private String shown() {
        StringBuilder text = new StringBuilder();
        for (int i = 0; x.shown(i) != ' '; i++) {
            text.append(x.shown(i));
        }
        return text.toString();
    }
}
