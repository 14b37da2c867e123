import java.io.IOException;
import java.lang.reflect.Method;
import java.lang.reflect.Modifier;
import java.nio.file.Files;
import java.nio.file.Path;
import java.util.regex.Matcher;
import java.util.regex.Pattern;

/** README.md is a promise, too: its example must answer as it says, and it must name every call. */
public final class ReadmeTest {
    private static final Pattern TEXT = Pattern.compile("String text = \"([^\"]*)\";");
    private static final Pattern CALL = Pattern.compile("(?m)^office\\.(\\w+)\\(([^)]*)\\);.*$");
    private static final Pattern ANSWER = Pattern.compile("^.*; +// (-?\\d+)(?::.*)?$");

    public static void main(String[] args) throws IOException, ReflectiveOperationException {
        Check check = new Check();
        String page = Files.readString(Path.of("README.md"));
        example(check, page);
        names(check, page);
        check.close("ReadmeTest");
    }

    private static void example(Check check, String page) throws ReflectiveOperationException {
        Matcher text = TEXT.matcher(page);
        check.due("README.md tells a text", text.find() ? 1 : 0, 1);
        AskedMaps office = new AskedMaps();
        Check.write(office, text.group(1));
        Matcher call = CALL.matcher(page);
        int calls = 0;
        while (call.find()) {
            calls++;
            Matcher answer = ANSWER.matcher(call.group());
            check.due(call.group() + " has an answer behind it", answer.matches() ? 1 : 0, 1);
            check.due(call.group(), answerOf(office, call.group(1), call.group(2)), Long.parseLong(answer.group(1)));
        }
        check.due("README.md has calls", calls > 0 ? 1 : 0, 1);
    }

    private static long answerOf(AskedMaps office, String name, String list) throws ReflectiveOperationException {
        String[] words = list.isBlank() ? new String[0] : list.split(",");
        Object[] numbers = new Object[words.length];
        Class<?>[] types = new Class<?>[words.length];
        for (int i = 0; i < words.length; i++) {
            numbers[i] = Integer.parseInt(words[i].trim());
            types[i] = int.class;
        }
        return ((Number) AskedMaps.class.getMethod(name, types).invoke(office, numbers)).longValue();
    }

    private static void names(Check check, String page) {
        for (Method m : AskedMaps.class.getDeclaredMethods()) {
            if (Modifier.isPublic(m.getModifiers())) {
                check.due("README.md names " + m.getName(), page.contains("`" + m.getName() + "`") ? 1 : 0, 1);
            }
        }
        check.due("README.md says how to run the tests", page.contains("bash .ci/run") ? 1 : 0, 1);
    }
}
