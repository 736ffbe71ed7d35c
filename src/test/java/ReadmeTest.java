import java.io.IOException;
import java.lang.reflect.Method;
import java.lang.reflect.Modifier;
import java.nio.file.Files;
import java.nio.file.Path;
import java.util.regex.Matcher;
import java.util.regex.Pattern;

/** README.md: its example answers what it says (the number that each comment begins with), and it names every call. */
public final class ReadmeTest {
    private static final Check CHECK = new Check();
    private static final Pattern TEXT = Pattern.compile("\"(g[^\"]*)\"");
    private static final Pattern CALL = Pattern.compile("(?m)^war\\.(\\w+)\\(([^)]*)\\); *// (-?\\d+)\\b");

    public static void main(String[] args) throws IOException, ReflectiveOperationException {
        String readme = Files.readString(Path.of("README.md"));
        example(readme);
        for (Method method : HedgeWar.class.getDeclaredMethods()) {
            boolean named = !Modifier.isPublic(method.getModifiers()) || readme.contains("`" + method.getName() + "(");
            CHECK.due(method.getName() + " is named", named ? 1 : 0, 1);
        }
        CHECK.end();
    }

    private static void example(String readme) throws ReflectiveOperationException {
        Matcher text = TEXT.matcher(readme);
        CHECK.due("a text is told", text.find() ? 1 : 0, 1);
        HedgeWar war = new HedgeWar();
        Check.feedAll(war, text.group(1));
        Matcher call = CALL.matcher(readme);
        int calls = 0;
        while (call.find()) {
            calls++;
            CHECK.due(call.group(), answer(war, call.group(1), call.group(2)), Integer.parseInt(call.group(3)));
        }
        CHECK.due("all calls have an answer", calls, readme.split("\nwar\\.", -1).length - 1);
        CHECK.due("the example has calls", calls > 0 ? 1 : 0, 1);
    }

    private static int answer(HedgeWar war, String name, String inside) throws ReflectiveOperationException {
        String[] words = inside.isEmpty() ? new String[0] : inside.split(", ");
        Object[] values = new Object[words.length];
        Class<?>[] kinds = new Class<?>[words.length];
        for (int k = 0; k < words.length; k++) {
            boolean truth = words[k].equals("true") || words[k].equals("false");
            kinds[k] = truth ? boolean.class : int.class;
            values[k] = truth ? (Object) Boolean.valueOf(words[k])
                : words[k].equals("HedgeWar.NONE") ? HedgeWar.NONE : Integer.valueOf(words[k]);
        }
        return (Integer) HedgeWar.class.getMethod(name, kinds).invoke(war, values);
    }
}
