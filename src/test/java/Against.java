import java.lang.reflect.InvocationTargetException;
import java.lang.reflect.Method;
import java.util.ArrayList;
import java.util.Arrays;
import java.util.List;

/** Runs of calls by a fixed sequence of numbers, on ScaleGroups and on Oracle: every answer must be the same. */
public final class Against {
    private static final int OBJECTS = 300;
    private static final int CALLS = 512;
    private static final int STYLES = 7;
    private static final int[] WILD = {-1, -2, 10, 11, 24, 25, 99, 100, 999, 1000, 1023, 1024, 9999, -9999, 10000,
            -10000, 65536, 1 << 30, Integer.MAX_VALUE, Integer.MIN_VALUE, Integer.MAX_VALUE - 1};

    /** Each call with a letter for what each of its arguments is (see argument). */
    private static final String[] CHANGES = {"add xyw", "add xyw", "add xyw", "add xyw", "take p", "weigh pw",
            "scatter n", "state v", "size s"};
    private static final String[] QUESTIONS = {"point pe", "at xy", "near abp", "join pc", "meets pp", "path ppi",
            "longest C", "zoom pp", "groups z", "groupOf zp", "group zgd", "group zgd", "member zgi", "splits zgi",
            "window zxxyyC", "top zxxyyi", "filled zi", "densest zC", "cover zg", "outline zgi", "area zg", "drift z",
            "tile ztuC", "part kp", "clearest", "best B", "shown z", "label ziC", "counted zg", "repaired C",
            "would xyf", "stirred z", "look c"};

    private static int wrong = 0;
    private static long seed = 1;

    private final ScaleGroups groups = new ScaleGroups();
    private final Oracle oracle = new Oracle();
    private final List<String> calls = new ArrayList<>();
    private final int style;
    private int called = 0;
    private int latestX = 0;

    private Against(int style) {
        this.style = style;
    }

    public static void main(String[] args) throws Exception {
        for (int object = 0; object < OBJECTS && wrong == 0; object++) {
            new Against(object % STYLES).run(object);
        }
        System.out.println(wrong == 0 ? "Against: all answers are as due" : "Against: " + wrong + " wrong");
        System.exit(wrong == 0 ? 0 : 1);
    }

    private void run(int object) throws Exception {
        while (called < CALLS && wrong == 0) {
            if (next(60) == 0) {
                call("clear");
            }
            for (int i = next(6); i >= 0; i--) {
                call(CHANGES[next(CHANGES.length)]);
            }
            for (int i = next(24); i >= 0; i--) {
                call(QUESTIONS[next(QUESTIONS.length)]);
            }
        }
        if (wrong > 0) {
            System.out.println("object " + object + ": " + String.join("; ", calls));
        }
    }

    private void call(String spec) throws Exception {
        if (called == CALLS || wrong > 0) {
            return;
        }
        called++;
        int space = spec.indexOf(' ');
        String name = space < 0 ? spec : spec.substring(0, space);
        String kinds = space < 0 ? "" : spec.substring(space + 1);
        Object[] arguments = new Object[kinds.length()];
        for (int i = 0; i < arguments.length; i++) {
            arguments[i] = next(40) == 0 ? WILD[next(WILD.length)] : argument(kinds.charAt(i));
        }
        // A window's bounds are mostly meant the right way round.
        if (kinds.startsWith("zxxyy") && next(8) != 0) {
            Arrays.sort(arguments, 1, 3);
            Arrays.sort(arguments, 3, 5);
        }
        compare(name, arguments);
    }

    private void compare(String name, Object[] arguments) throws Exception {
        String call = name + Arrays.toString(arguments).replace('[', '(').replace(']', ')');
        calls.add(call);
        int due = answer(oracle, name, arguments);
        int got = answer(groups, name, arguments);
        if (got != due) {
            wrong++;
            System.out.println(call + " answered " + got + ", due is " + due);
        }
    }

    private static int answer(Object object, String name, Object[] arguments) throws Exception {
        Class<?>[] types = new Class<?>[arguments.length];
        Arrays.fill(types, int.class);
        Method method = object.getClass().getDeclaredMethod(name, types);
        method.setAccessible(true);
        try {
            return (Integer) method.invoke(object, arguments);
        } catch (InvocationTargetException thrown) {
            wrong++;
            System.out.println(name + " of " + object.getClass().getName() + " threw " + thrown.getCause());
            return 0;
        }
    }

    private int argument(char kind) {
        switch (kind) {
            case 'x':
                latestX = coordinate();
                return latestX;
            case 'y':
                return style == 4 ? next(2) * 100 : style == 6 ? slantwise() : coordinate();
            case 'w':
                return style % 2 == 0 ? 1 + next(3) : 1 + next(99);
            case 'a':
            case 'b':
                return next(3) == 0 ? next(19999) - 9999 : coordinate();
            case 'p':
                return next(Math.max(1, oracle.look(0)) + 1) - (next(20) == 0 ? 1 : 0);
            case 'k':
                return 1 + next(Math.max(1, oracle.look(0)));
            case 'n':
                return next(6) == 0 ? next(26) : next(4);
            case 'v':
                return next(2) == 0 ? next(1000) : (int) (next(1 << 16) * 65537L * 40503L);
            case 's':
                return next(4) == 0 ? next(1001) : style == 6 ? 800 + next(200) : next(80) * (1 + style);
            case 'z':
                return next(11);
            case 'g':
                return next(2) == 0 ? next(3) : next(24);
            case 'i':
                return next(8) - 1;
            case 'd':
                return next(13);
            case 'c':
                return next(11);
            case 'B':
                return next(2) == 0 ? next(2) : 9 + next(26);
            case 'e':
                return next(7);
            case 'f':
                return next(3);
            case 'C':
                return next(5);
            case 't':
            case 'u':
                return next(1 << next(11));
            default:
                throw new IllegalArgumentException("no such kind: " + kind);
        }
    }

    private int coordinate() {
        switch (style) {
            case 0:
                return next(1024);
            case 1:
                // a few near places, for many like PAIRS
                return next(7);
            case 2:
                // APART that is just a RADIUS, or beside it
                return next(17) * 64 + next(3) - 1;
            case 3:
                // heaps
                return next(4) * 256 + next(12);
            case 4:
                // by y on two lines, where corners are but their ends
                return next(16) * next(64);
            case 6:
                return 50 * next(8) + next(3);
            default:
                return next(2) == 0 ? next(1024) : 1 << next(11);
        }
    }

    /** 50 by x and by y from others: they are unlike GROUPS of z 4 (64), but with SIZE 999 (62) hide one another. */
    private int slantwise() {
        return 50 * (2 * next(4) + latestX / 50 % 2) + next(3);
    }

    private static int next(int bound) {
        seed = seed * 6364136223846793005L + 1442695040888963407L;
        return (int) ((seed >>> 33) % bound);
    }
}
