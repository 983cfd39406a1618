import java.io.File;
import java.lang.reflect.InvocationTargetException;
import java.lang.reflect.Method;
import java.lang.reflect.Modifier;
import java.nio.file.Files;
import java.nio.file.Path;
import java.util.Arrays;
import java.util.HashMap;
import java.util.Map;
import java.util.Set;
import java.util.TreeSet;
import java.util.regex.Matcher;
import java.util.regex.Pattern;

/** What README.md shows of the class's use: each call there is made, and must answer what stands behind it. */
public final class Readme {
    private static final Pattern MADE = Pattern.compile("ScaleGroups (\\w+) = new ScaleGroups\\(\\);");
    private static final Pattern CALL = Pattern.compile(
            "(\\w+)\\.(\\w+)\\(([^()]*)\\); *// (-?\\d+|NONE|NONE - \\d+)(: .+|)");
    private static final int MOST_CALLS = 512;

    private static int wrong = 0;

    private final Map<String, ScaleGroups> objects = new HashMap<>();
    private final Map<String, Integer> calls = new HashMap<>();
    private final Set<String> shown = new TreeSet<>();

    public static void main(String[] args) throws Exception {
        new Readme().run(Files.readString(Path.of("README.md")));
        System.out.println(wrong == 0 ? "Readme: all answers are as due" : "Readme: " + wrong + " wrong");
        System.exit(wrong == 0 ? 0 : 1);
    }

    private static void need(boolean holds, String what) {
        if (!holds) {
            wrong++;
            System.out.println("README.md: " + what);
        }
    }

    private void run(String text) throws Exception {
        boolean isProgram = false;
        for (String line : text.split("\n")) {
            if (line.startsWith("```")) {
                need(isProgram ? line.equals("```") : line.equals("```java"), "begins or ends oddly: " + line);
                isProgram = !isProgram;
            } else if (isProgram) {
                run(line, MADE.matcher(line), CALL.matcher(line));
            }
        }
        need(!isProgram, "a program does not end");
        for (Method method : ScaleGroups.class.getDeclaredMethods()) {
            boolean isLeftOut = Modifier.isPublic(method.getModifiers()) && !shown.contains(method.getName());
            need(!isLeftOut, "does not show " + method.getName());
        }
        tests(text.substring(Math.max(0, text.indexOf("## How to test it"))));
    }

    /** Each class of the tests is named where README.md says how to test, and no other one. */
    private static void tests(String text) {
        Set<String> named = new TreeSet<>();
        Matcher names = Pattern.compile("`([A-Z]\\w*)`").matcher(text);
        while (names.find()) {
            named.add(names.group(1));
        }
        Set<String> due = new TreeSet<>();
        for (String test : new File("src/test/java").list()) {
            due.add(test.replace(".java", ""));
        }
        need(named.equals(due), "names the tests " + named + ", due are " + due);
    }

    private void run(String line, Matcher made, Matcher call) throws Exception {
        if (made.matches()) {
            need(objects.put(made.group(1), new ScaleGroups()) == null, "made twice: " + line);
        } else if (call.matches() && objects.containsKey(call.group(1))) {
            int number = calls.merge(call.group(1), 1, Integer::sum);
            need(number <= MOST_CALLS, "more calls than are promised: " + line);
            int answer = answer(call);
            need(answer == due(call.group(4)), "another answer, " + answer + ": " + line);
            shown.add(call.group(2));
        } else {
            need(false, "no call with its answer: " + line);
        }
    }

    private int answer(Matcher call) throws Exception {
        String[] texts = call.group(3).isEmpty() ? new String[0] : call.group(3).split(", ");
        Object[] arguments = Arrays.stream(texts).map(Readme::argument).toArray();
        Class<?>[] types = new Class<?>[texts.length];
        Arrays.fill(types, int.class);
        try {
            return (Integer) ScaleGroups.class.getMethod(call.group(2), types)
                    .invoke(objects.get(call.group(1)), arguments);
        } catch (NoSuchMethodException | InvocationTargetException none) {
            need(false, "no such call, or it throws: " + call.group());
            return 0;
        }
    }

    private static Object argument(String text) {
        return text.equals("ScaleGroups.NONE") ? ScaleGroups.NONE : Integer.parseInt(text);
    }

    private static int due(String text) {
        if (!text.startsWith("NONE")) {
            return Integer.parseInt(text);
        }
        return ScaleGroups.NONE - (text.equals("NONE") ? 0 : Integer.parseInt(text.substring("NONE - ".length())));
    }
}
