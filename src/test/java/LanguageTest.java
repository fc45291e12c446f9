import java.lang.reflect.Field;
import java.lang.reflect.Method;
import java.lang.reflect.Modifier;
import java.nio.file.Files;
import java.nio.file.Path;
import java.util.Set;
import java.util.TreeSet;
import java.util.regex.Matcher;
import java.util.regex.Pattern;

/** The rules of LANGUAGE.md that can be read off the class, the words of its file and its answers. */
public final class LanguageTest {
    private static final Check check = new Check();
    private static final Set<String> NUMBERS = Set.of("int", "long", "short", "byte", "char", "boolean");
    private static final String NONE = "[]";

    public static void main(String[] args) throws Exception {
        oneClass();
        types();
        staticFields();
        sizes();
        words();
        noCallThrowsAndAnswersAreTheSame();
        check.end();
    }

    private static void oneClass() {
        check.sentence("Rule 1");
        Class<?> type = BoxPusher.class;
        check.due("the package", type.getPackageName(), "");
        check.due("nested classes", type.getDeclaredClasses().length, 0);
        check.due("the class above", type.getSuperclass().getName(), "java.lang.Object");
        check.due("interfaces", type.getInterfaces().length, 0);
        TreeSet<String> open = new TreeSet<>();
        TreeSet<String> both = new TreeSet<>();
        for (Method method : type.getDeclaredMethods()) {
            if (Modifier.isPublic(method.getModifiers())) {
                open.add(method.getName());
            }
        }
        for (Method method : type.getDeclaredMethods()) {
            if (Modifier.isPrivate(method.getModifiers()) && open.contains(method.getName())) {
                both.add(method.getName());
            }
        }
        check.due("names both public and private", both.toString(), NONE);
    }

    private static boolean isAllowed(Class<?> type) {
        return NUMBERS.contains(type.isArray() ? type.getComponentType().getName() : type.getName());
    }

    private static void types() {
        check.sentence("Rules 2 and 4");
        TreeSet<String> wrong = new TreeSet<>();
        for (Field field : BoxPusher.class.getDeclaredFields()) {
            if (!isAllowed(field.getType())) {
                wrong.add(field.toString());
            }
        }
        for (Method method : BoxPusher.class.getDeclaredMethods()) {
            Class<?> answer = method.getReturnType();
            if (answer != void.class && (answer.isArray() || !isAllowed(answer))) {
                wrong.add(method.toString());
            }
            for (Class<?> parameter : method.getParameterTypes()) {
                if (!isAllowed(parameter)) {
                    wrong.add(method.toString());
                }
            }
        }
        check.due("other types", wrong.toString(), NONE);
    }

    private static void staticFields() {
        check.sentence("Rule 5");
        TreeSet<String> wrong = new TreeSet<>();
        for (Field field : BoxPusher.class.getDeclaredFields()) {
            boolean constant = Modifier.isFinal(field.getModifiers())
                && (field.getType() == int.class || field.getType() == long.class);
            if (Modifier.isStatic(field.getModifiers()) && !constant) {
                wrong.add(field.toString());
            }
        }
        check.due("static fields that are no constants", wrong.toString(), NONE);
    }

    private static void sizes() {
        check.sentence("Rule 10");
        int fields = 0;
        for (Field field : BoxPusher.class.getDeclaredFields()) {
            if (!Modifier.isStatic(field.getModifiers())) {
                fields++;
            }
        }
        check.due("at most forty fields", fields <= 40, true);
        for (Method method : BoxPusher.class.getDeclaredMethods()) {
            check.due(method + ": at most seven parameters", method.getParameterCount() <= 7, true);
        }
    }

    private static void words() throws Exception {
        check.sentence("Rules 1 to 6 and 11");
        String source = Files.readString(Path.of("src/main/java/BoxPusher.java"));
        String code = source.replaceAll("//.*", "").replaceAll("(?s)/\\*.*?\\*/", "");
        Matcher wrong = Pattern.compile("\\b(package|import|float|double|String|Math|Integer|Long|System|Arrays|Object"
            + "|null|throws?|try|catch|finally|synchronized|assert|instanceof|interface|enum|record|extends|implements"
            + "|protected|var|equals|hashCode|toString|clone|getClass)\\b|->|::|\"|static *\\{|\\] *\\[").matcher(code);
        TreeSet<String> met = new TreeSet<>();
        while (wrong.find()) {
            met.add(wrong.group());
        }
        check.due("words that the rules leave out", met.toString(), NONE);
        // Arrays are made in the fields' initialisers alone, and nothing else is made.
        String rest = code.replaceAll("private final \\w+\\[\\] \\w+ = new \\w+\\[[A-Z_0-9]+\\];", "");
        check.due("made elsewhere", Pattern.compile("\\bnew\\b").matcher(rest).find(), false);
    }

    /** Far beyond the 512 calls of the document, since these rules know no such bound. */
    private static void noCallThrowsAndAnswersAreTheSame() {
        check.sentence("Rules 7 and 11");
        BoxPusher one = new BoxPusher();
        BoxPusher other = new BoxPusher();
        int[] wild = {Integer.MIN_VALUE, Integer.MIN_VALUE + 1, -17, -1, 16, 17, 4624, Integer.MAX_VALUE};
        long seed = 8;
        for (int i = 0; i < 20000; i++) {
            seed = seed * 6364136223846793005L + 1442695040888963407L;
            int which = (int) (seed >>> 33) % 14;
            int first = (int) (seed >>> 40) % 20;
            int second = (int) (seed >>> 48) % 5;
            int cell = first < 16 ? first : wild[(first + second) % wild.length];
            int kind = second < 4 ? second : wild[first % wild.length];
            check.due("call " + i + " of kind " + which, call(other, which, cell, kind), call(one, which, cell, kind));
        }
    }

    private static int call(BoxPusher x, int which, int cell, int kind) {
        return switch (which) {
            case 0 -> x.cell(cell, kind);
            case 1 -> x.box(cell, kind > 0);
            case 2 -> x.place(cell);
            case 3 -> x.move(kind);
            case 4 -> x.undo();
            case 5 -> x.done() ? 1 : 0;
            case 6 -> x.leastMoves();
            case 7 -> x.leastPushes();
            case 8 -> x.bestMove();
            case 9 -> x.dead(cell) ? 1 : 0;
            case 10 -> x.region();
            case 11 -> x.hasBox(cell) ? 1 : 0;
            case 12 -> x.pusher();
            default -> x.pushes();
        };
    }
}
