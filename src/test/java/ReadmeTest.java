import java.lang.reflect.Method;
import java.nio.file.Files;
import java.nio.file.Path;
import java.util.TreeSet;
import java.util.regex.Matcher;
import java.util.regex.Pattern;

/** The calls in README.md, made in their order: each answers what its comment begins with. */
public final class ReadmeTest {
    private static final Pattern CALL = Pattern.compile("store\\.(\\w+)\\((.*)\\); +// (-?\\w+).*");

    public static void main(String[] args) throws Exception {
        Check check = new Check();
        BoxPusher store = new BoxPusher();
        TreeSet<String> called = new TreeSet<>();
        for (String line : Files.readAllLines(Path.of("README.md"))) {
            Matcher call = CALL.matcher(line);
            if (call.matches()) {
                called.add(call.group(1));
                check.due(line, answer(store, call.group(1), call.group(2)), call.group(3));
            }
        }
        check.due("every public method is called", called.toString(), names().toString());
        check.end();
    }

    private static TreeSet<String> names() {
        TreeSet<String> all = new TreeSet<>();
        for (Method method : BoxPusher.class.getMethods()) {
            if (method.getDeclaringClass() == BoxPusher.class) {
                all.add(method.getName());
            }
        }
        return all;
    }

    private static String answer(BoxPusher store, String name, String words) throws Exception {
        for (Method method : BoxPusher.class.getMethods()) {
            if (method.getName().equals(name)) {
                String[] given = words.isEmpty() ? new String[0] : words.split(", ");
                Object[] values = new Object[given.length];
                for (int i = 0; i < given.length; i++) {
                    values[i] = value(given[i]);
                }
                return String.valueOf(method.invoke(store, values));
            }
        }
        return "nothing: there is no such method";
    }

    private static Object value(String word) throws Exception {
        if (word.equals("true") || word.equals("false")) {
            return Boolean.valueOf(word);
        }
        if (word.startsWith("BoxPusher.")) {
            return BoxPusher.class.getField(word.substring("BoxPusher.".length())).get(null);
        }
        return Integer.valueOf(word);
    }
}
