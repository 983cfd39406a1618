import java.lang.reflect.Constructor;
import java.lang.reflect.Field;
import java.lang.reflect.Method;
import java.lang.reflect.Modifier;
import java.util.List;
import java.util.Set;
import java.util.TreeSet;

/** The face of the document, and nothing beside it: rule 1 of LANGUAGE.md. */
public final class Face {
    /** Each method with how many numbers it takes. */
    private static final String METHODS = "add 3, take 1, weigh 2, scatter 1, state 1, clear 0, size 1, point 2, at 2, "
            + "near 3, join 2, meets 2, path 3, longest 1, zoom 2, groups 1, groupOf 2, group 3, member 3, splits 3, "
            + "window 6, top 6, filled 2, densest 2, cover 2, outline 3, area 2, drift 1, tile 4, part 2, clearest 0, "
            + "best 1, shown 1, label 3, counted 2, repaired 1, would 3, stirred 1, look 1";

    private static int wrong = 0;

    public static void main(String[] args) throws Exception {
        face();
        constant();
        classesInside();
        System.out.println(wrong == 0 ? "Face: all is as due" : "Face: " + wrong + " wrong");
        System.exit(wrong == 0 ? 0 : 1);
    }

    private static void need(boolean holds, String what) {
        if (!holds) {
            wrong++;
            System.out.println("the face: " + what);
        }
    }

    private static void face() {
        Class<?> it = ScaleGroups.class;
        need(Modifier.isPublic(it.getModifiers()) && Modifier.isFinal(it.getModifiers()), "is public and final");
        Constructor<?>[] constructors = it.getDeclaredConstructors();
        need(constructors.length == 1 && constructors[0].getParameterCount() == 0
                && Modifier.isPublic(constructors[0].getModifiers()), "has one constructor, public, of nothing");
        Set<String> due = new TreeSet<>(List.of(METHODS.split(", ")));
        Set<String> got = new TreeSet<>();
        for (Method method : it.getDeclaredMethods()) {
            String call = method.getName() + " " + method.getParameterCount();
            if (Modifier.isPublic(method.getModifiers())) {
                got.add(call);
                need(method.getReturnType() == int.class && !Modifier.isStatic(method.getModifiers()),
                        call + " answers an int of an object");
                for (Class<?> type : method.getParameterTypes()) {
                    need(type == int.class, call + " takes ints");
                }
            } else {
                need(Modifier.isPrivate(method.getModifiers()), call + " is private");
            }
        }
        need(got.equals(due), "has methods " + got + ", due are " + due);
        need(due.size() == 39, "has 39 methods");
    }

    private static void constant() throws Exception {
        for (Field field : ScaleGroups.class.getDeclaredFields()) {
            boolean isPublic = Modifier.isPublic(field.getModifiers());
            need(isPublic ? field.getName().equals("NONE") : Modifier.isPrivate(field.getModifiers()),
                    field.getName() + " is private");
        }
        Field none = ScaleGroups.class.getField("NONE");
        need(Modifier.isStatic(none.getModifiers()) && Modifier.isFinal(none.getModifiers())
                && none.getType() == int.class && none.getInt(null) == -1, "has NONE, an int, -1");
    }

    private static void classesInside() {
        Set<String> publicNames = new TreeSet<>();
        for (String method : METHODS.split(", ")) {
            publicNames.add(method.split(" ")[0]);
        }
        Class<?>[] inside = ScaleGroups.class.getDeclaredClasses();
        for (Class<?> it : inside) {
            need(Modifier.isStatic(it.getModifiers()) && !Modifier.isPublic(it.getModifiers()),
                    it.getName() + " is static and not public");
            for (Method method : it.getDeclaredMethods()) {
                need(!publicNames.contains(method.getName()), method + " has a name of its own");
            }
        }
        for (Method method : ScaleGroups.class.getDeclaredMethods()) {
            need(Modifier.isPublic(method.getModifiers()) || !publicNames.contains(method.getName()),
                    method + " has a name of its own");
        }
    }
}
