import java.lang.reflect.Constructor;
import java.lang.reflect.Field;
import java.lang.reflect.Method;
import java.lang.reflect.Modifier;
import java.util.TreeSet;

/** The public face: every constant, the constructor, every method, and nothing else to be seen. */
public final class FaceTest {
    public static void main(String[] args) throws Exception {
        Check check = new Check();
        Class<?> type = BoxPusher.class;
        check.due("the class is public and final", Modifier.toString(type.getModifiers()), "public final");
        check.due("visible fields", fields(type), "[public static final int BAD_CELL = -1,"
            + " public static final int BAD_KIND = -2, public static final int BLOCKED = -5,"
            + " public static final int FLOOR = 0, public static final int FULL = -4,"
            + " public static final int GOAL = 2, public static final int NONE = -6,"
            + " public static final int TAKEN = -3, public static final int WALL = 1]");
        check.due("visible constructors", constructors(type), "[public BoxPusher()]");
        check.due("visible methods", methods(type), "[public boolean BoxPusher.dead(int),"
            + " public boolean BoxPusher.done(), public boolean BoxPusher.hasBox(int),"
            + " public int BoxPusher.bestMove(), public int BoxPusher.box(int,boolean),"
            + " public int BoxPusher.cell(int,int), public int BoxPusher.leastMoves(),"
            + " public int BoxPusher.leastPushes(), public int BoxPusher.move(int),"
            + " public int BoxPusher.place(int), public int BoxPusher.pusher(),"
            + " public int BoxPusher.pushes(), public int BoxPusher.region(),"
            + " public int BoxPusher.undo()]");
        check.end();
    }

    private static String fields(Class<?> type) throws Exception {
        TreeSet<String> seen = new TreeSet<>();
        for (Field field : type.getDeclaredFields()) {
            if (!Modifier.isPrivate(field.getModifiers())) {
                seen.add(Modifier.toString(field.getModifiers()) + " " + field.getType() + " "
                    + field.getName() + " = " + field.get(null));
            }
        }
        return seen.toString();
    }

    private static String constructors(Class<?> type) {
        TreeSet<String> seen = new TreeSet<>();
        for (Constructor<?> constructor : type.getDeclaredConstructors()) {
            if (!Modifier.isPrivate(constructor.getModifiers())) {
                seen.add(constructor.toString());
            }
        }
        return seen.toString();
    }

    private static String methods(Class<?> type) {
        TreeSet<String> seen = new TreeSet<>();
        for (Method method : type.getDeclaredMethods()) {
            if (!Modifier.isPrivate(method.getModifiers())) {
                seen.add(method.toString());
            }
        }
        return seen.toString();
    }
}
