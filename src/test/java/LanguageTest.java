import java.io.IOException;
import java.lang.reflect.Constructor;
import java.lang.reflect.Field;
import java.lang.reflect.Method;
import java.lang.reflect.Modifier;
import java.nio.charset.StandardCharsets;
import java.nio.file.Files;
import java.nio.file.Path;
import java.util.HashSet;
import java.util.Set;
import java.util.TreeSet;
import java.util.regex.Matcher;
import java.util.regex.Pattern;

/** The document's face, and the rules of LANGUAGE.md that can be seen in the source or the compiled class. */
public final class LanguageTest {
    private static final Check CHECK = new Check();
    private static final String FACE = "birds(int,int) decides(int,int) drift(int) edge(int,int) fault() feed(int)"
        + " field(int,int) gate(int,boolean) goBack(int) graze(int) judge() keep(int) lookAt() parish() plant(int,int)"
        + " plantedAgo() root(int,int) seed(int) slips(int,int,int,int) tallIn(int) tear() told(int) turns(int,int)"
        + " undo() walk(int,int) write(int,int) year(int)";
    private static final String[] RULED_OUT = {"throw", "throws", "try", "catch", "synchronized", "assert", "import",
        "package", "protected", "hashCode", "System\\s*\\.\\s*out", "Exact", "->", "::", "\"", "null"};

    /** What the class uses of the library; LANGUAGE.md leaves more. */
    private static final Set<String> LIBRARY = Set.of("Integer.bitCount", "Long.bitCount", "Math.max", "Math.min",
        "System.arraycopy");
    private static final int MOST_LINES = 60;

    public static void main(String[] args) throws IOException {
        face();
        insideClasses();
        String text = Files.readString(Path.of("src/main/java/HedgeWar.java"), StandardCharsets.US_ASCII);
        String code = text.replaceAll("(?s)/\\*.*?\\*/", " ").replaceAll("//[^\n]*", " ");
        ruledOut(code);
        library(code);
        bodies(text);
        CHECK.end();
    }

    private static void dueIs(String what, boolean is) {
        CHECK.due(what, is ? 1 : 0, 1);
    }

    private static void face() {
        Set<String> methods = new TreeSet<>();
        Set<String> names = new HashSet<>();
        for (Method method : HedgeWar.class.getDeclaredMethods()) {
            if (!Modifier.isPrivate(method.getModifiers())) {
                dueIs(method + " is public", Modifier.isPublic(method.getModifiers()));
                methods.add(method.getName() + parameters(method));
                names.add(method.getName());
            }
        }
        dueIs("the face is " + methods, String.join(" ", methods).equals(FACE));
        for (Method method : HedgeWar.class.getDeclaredMethods()) {
            boolean hidden = Modifier.isPrivate(method.getModifiers());
            dueIs(method + " has a name of its own", !(hidden && names.contains(method.getName())));
            dueIs(method + " has seven parameters at most", method.getParameterCount() <= 7);
        }
        Constructor<?>[] constructors = HedgeWar.class.getDeclaredConstructors();
        CHECK.due("constructors", constructors.length, 1);
        CHECK.due("their parameters", constructors[0].getParameterCount(), 0);
        CHECK.due("public and final", HedgeWar.class.getModifiers(), Modifier.PUBLIC | Modifier.FINAL);
        int open = 0;
        for (Field field : HedgeWar.class.getDeclaredFields()) {
            open += Modifier.isPrivate(field.getModifiers()) ? 0 : 1;
        }
        CHECK.due("constants", open, 5);
    }

    private static String parameters(Method method) {
        StringBuilder text = new StringBuilder("(");
        for (Class<?> type : method.getParameterTypes()) {
            text.append(text.length() > 1 ? "," : "").append(type.getName());
        }
        return text.append(")").toString();
    }

    private static void insideClasses() {
        Class<?>[] inside = HedgeWar.class.getDeclaredClasses();
        dueIs("twelve classes at most", inside.length < 12);
        for (Class<?> kind : inside) {
            dueIs(kind + " is static", Modifier.isStatic(kind.getModifiers()));
            int fields = 0;
            for (Field field : kind.getDeclaredFields()) {
                boolean shared = Modifier.isStatic(field.getModifiers());
                dueIs(field + " is final if static", !shared || Modifier.isFinal(field.getModifiers()));
                fields += shared ? 0 : 1;
            }
            dueIs(kind + " has twenty fields at most", fields <= 20);
            for (Method method : kind.getDeclaredMethods()) {
                dueIs(method + " has a name of its own", !(" " + FACE).contains(" " + method.getName() + "("));
                dueIs(method + " has seven parameters at most", method.getParameterCount() <= 7);
            }
        }
    }

    private static void ruledOut(String code) {
        for (String word : RULED_OUT) {
            boolean letters = Character.isLetter(word.charAt(0));
            Matcher found = Pattern.compile(letters ? "\\b" + word + "\\b" : word).matcher(code);
            dueIs("no " + word + " in the source", !found.find());
        }
        dueIs("no loop without an end", !Pattern.compile("while \\(true\\)|for \\([^;]*; *;").matcher(code).find());
    }

    private static void library(String code) {
        Set<String> own = new HashSet<>();
        own.add("HedgeWar");
        for (Class<?> kind : HedgeWar.class.getDeclaredClasses()) {
            own.add(kind.getSimpleName());
        }
        // A name with a small letter in it that begins with a great one is a class.
        Matcher name = Pattern.compile("\\b([A-Z]\\w*[a-z]\\w*)(\\.\\w+)?").matcher(code);
        while (name.find()) {
            dueIs(name.group() + " may be used", own.contains(name.group(1)) || LIBRARY.contains(name.group()));
        }
    }

    /** Methods are short, and none but a constructor makes an object: all calls of a run live in one room. */
    private static void bodies(String text) {
        String[] lines = text.split("\n");
        Pattern head = Pattern.compile("( {4}| {8})(?:\\w+ )*?(\\w+ )?(\\w+)\\([^;]*\\) \\{");
        int methods = 0;
        for (int k = 0; k < lines.length; k++) {
            Matcher found = head.matcher(lines[k]);
            if (!found.matches() || Set.of("for", "while", "if", "switch").contains(found.group(3))) {
                continue;
            }
            methods++;
            boolean constructor = Character.isUpperCase(found.group(3).charAt(0));
            int end = k;
            while (end < lines.length && !lines[end].equals(found.group(1) + "}")) {
                dueIs(lines[end] + " makes no object", constructor || !lines[end].matches(".*\\bnew\\b.*"));
                end++;
            }
            dueIs(found.group(3) + " is short", end - k < MOST_LINES);
        }
        dueIs("all methods are found, " + methods, methods >= HedgeWar.class.getDeclaredMethods().length + 2);
    }
}
