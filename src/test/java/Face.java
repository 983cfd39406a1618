import java.lang.reflect.Constructor;
import java.lang.reflect.Field;
import java.lang.reflect.Method;
import java.lang.reflect.Modifier;
import java.nio.file.Files;
import java.nio.file.Path;
import java.util.List;
import java.util.Set;
import java.util.TreeSet;
import java.util.regex.Matcher;
import java.util.regex.Pattern;

/** The face of the document, and those rules of LANGUAGE.md that can be seen in the text of the program. */
public final class Face {
    /** Each method with how many numbers it takes. */
    private static final String METHODS = "add 3, take 1, weigh 2, scatter 1, state 1, clear 0, size 1, point 2, at 2, "
            + "near 3, join 2, meets 2, path 3, longest 1, zoom 2, groups 1, groupOf 2, group 3, member 3, splits 3, "
            + "window 6, top 6, filled 2, densest 2, cover 2, outline 3, area 2, drift 1, tile 4, part 2, clearest 0, "
            + "best 1, shown 1, label 3, counted 2, repaired 1, would 3, stirred 1, look 1";
    private static final List<String> UNWANTED = List.of("\\bthrow\\b", "\\bthrows\\b", "\\btry\\b", "\\bcatch\\b",
            "\\bsynchronized\\b", "\\bassert\\b", "->", "::", "\\bimport\\b", "\\bpackage\\b", "\\binstanceof\\b",
            "\\bSystem\\b", "\\bThread\\b", "\\bRandom\\b", "Exact\\b", "\\bnative\\b", "\\bdouble\\b", "\\bfloat\\b",
            "@", "\\bstatic\\s*\\{", "\\bprotected\\b", "\\bwhile\\s*\\(\\s*true");
    private static final Set<String> LIBRARY = Set.of("Math.min", "Math.max", "Math.abs", "Integer.bitCount");
    private static final int MOST_LINES = 60;
    private static final int MOST_FIELDS = 20;
    private static final int MOST_CLASSES = 12;

    private static int wrong = 0;

    public static void main(String[] args) throws Exception {
        face();
        constant();
        classesInside();
        String source = Files.readString(Path.of("src/main/java/ScaleGroups.java"));
        String program = source.replaceAll("(?s)/\\*.*?\\*/", "").replaceAll("//[^\n]*", "");
        unwanted(program);
        library(program);
        made(program);
        lengths(program);
        System.out.println(wrong == 0 ? "Face: all is as due" : "Face: " + wrong + " wrong");
        System.exit(wrong == 0 ? 0 : 1);
    }

    private static void need(boolean holds, String what) {
        if (!holds) {
            wrong++;
            System.out.println("the face: " + what);
        }
    }

    private static void face() {
        Class<?> it = ScaleGroups.class;
        need(Modifier.isPublic(it.getModifiers()) && Modifier.isFinal(it.getModifiers()), "is public and final");
        Constructor<?>[] constructors = it.getDeclaredConstructors();
        need(constructors.length == 1 && constructors[0].getParameterCount() == 0
                && Modifier.isPublic(constructors[0].getModifiers()), "has one constructor, public, of nothing");
        Set<String> due = new TreeSet<>(List.of(METHODS.split(", ")));
        Set<String> got = new TreeSet<>();
        for (Method method : it.getDeclaredMethods()) {
            String call = method.getName() + " " + method.getParameterCount();
            if (Modifier.isPublic(method.getModifiers())) {
                got.add(call);
                need(method.getReturnType() == int.class && !Modifier.isStatic(method.getModifiers()),
                        call + " answers an int of an object");
                for (Class<?> type : method.getParameterTypes()) {
                    need(type == int.class, call + " takes ints");
                }
            } else {
                need(Modifier.isPrivate(method.getModifiers()), call + " is private");
            }
        }
        need(got.equals(due), "has methods " + got + ", due are " + due);
        need(due.size() == 39, "has 39 methods");
    }

    private static void constant() throws Exception {
        for (Field field : ScaleGroups.class.getDeclaredFields()) {
            boolean isPublic = Modifier.isPublic(field.getModifiers());
            need(isPublic ? field.getName().equals("NONE") : Modifier.isPrivate(field.getModifiers()),
                    field.getName() + " is private");
        }
        Field none = ScaleGroups.class.getField("NONE");
        need(Modifier.isStatic(none.getModifiers()) && Modifier.isFinal(none.getModifiers())
                && none.getType() == int.class && none.getInt(null) == -1, "has NONE, an int, -1");
    }

    private static void classesInside() {
        Set<String> publicNames = new TreeSet<>();
        for (String method : METHODS.split(", ")) {
            publicNames.add(method.split(" ")[0]);
        }
        Class<?>[] inside = ScaleGroups.class.getDeclaredClasses();
        need(inside.length < MOST_CLASSES, "has few classes inside");
        fields(ScaleGroups.class);
        for (Class<?> it : inside) {
            need(Modifier.isStatic(it.getModifiers()) && !Modifier.isPublic(it.getModifiers()),
                    it.getName() + " is static and not public");
            fields(it);
            for (Method method : it.getDeclaredMethods()) {
                need(!publicNames.contains(method.getName()), method + " has a name of its own");
                need(method.getParameterCount() <= 7, method + " takes at most seven");
            }
        }
        for (Method method : ScaleGroups.class.getDeclaredMethods()) {
            need(Modifier.isPublic(method.getModifiers()) || !publicNames.contains(method.getName()),
                    method + " has a name of its own");
        }
    }

    private static void fields(Class<?> it) {
        int count = 0;
        for (Field field : it.getDeclaredFields()) {
            boolean isStatic = Modifier.isStatic(field.getModifiers());
            need(!isStatic || Modifier.isFinal(field.getModifiers()), field + " is no constant");
            count += isStatic ? 0 : 1;
        }
        need(count <= MOST_FIELDS, it.getName() + " has few fields");
    }

    private static void unwanted(String program) {
        for (String sign : UNWANTED) {
            need(!Pattern.compile(sign).matcher(program).find(), "is without " + sign);
        }
        need(program.chars().allMatch(sign -> sign < 127), "is in plain signs");
    }

    private static void library(String program) {
        Matcher names = Pattern.compile("\\b(Math|Integer|Long|Arrays|String|Object|List|ArrayList)\\b\\.?\\w*")
                .matcher(program);
        while (names.find()) {
            need(LIBRARY.contains(names.group()), names.group() + " is not in its library");
        }
    }

    /** Objects and arrays are made with the object that has them, by no call: so their number is that of objects. */
    private static void made(String program) {
        for (String line : program.split("\n")) {
            boolean isField = line.matches(" {4,8}(private )?(final )?\\w+(\\[\\])* \\w+ = new [^;]*;");
            need(!line.matches(".*\\bnew\\b.*") || isField, "makes things in fields only, unlike:" + line);
        }
    }

    private static void lengths(String program) {
        int length = 0;
        for (String line : program.split("\n")) {
            boolean isHead = line.matches(" {4,8}\\w.*\\) \\{");
            length = isHead ? 1 : length + 1;
            boolean isEnd = line.matches(" {4,8}\\}");
            need(!isEnd || length <= MOST_LINES, "has short methods, unlike one of " + length + " lines");
            need(line.length() <= 120, "has short lines, unlike:" + line);
        }
    }
}
