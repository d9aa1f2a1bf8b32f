import java.io.IOException;
import java.lang.reflect.Array;
import java.lang.reflect.Constructor;
import java.lang.reflect.Field;
import java.lang.reflect.Method;
import java.lang.reflect.Modifier;
import java.nio.file.Files;
import java.nio.file.Path;
import java.util.ArrayList;
import java.util.Arrays;
import java.util.HashSet;
import java.util.IdentityHashMap;
import java.util.List;
import java.util.Map;
import java.util.Set;
import java.util.TreeSet;
import java.util.regex.Matcher;
import java.util.regex.Pattern;

/** The public face, as the document shows it, and the room that an object takes. */
public final class FaceTest {
    private static final Checks CHECKS = new Checks("FaceTest");
    private static final Path DOCUMENT = Path.of("../shared/DOC.md");
    private static final String[] METHODS = {
        "int board(int, int)", "int cell(int, int, int)", "int group(int, boolean)", "int open(int)",
        "int face(int, int)", "int turn(int, int)", "int stance(int, int)", "int apart(int, int)",
        "int roll(int, int, int)", "int shortest(int, int, int, int)", "int way(int, int, int, int, int)",
        "long ways(int, int, int, int)", "int cheapest(int, int, int, int)", "int stances(int, int, int)",
        "int reach(int, int)", "int tours(int, int, int)", "int tour(int, int, int, int)",
        "int row(int, int)", "int clear()", "int starts()", "int start(int)", "int sure(int)", "int next()",
        "int sound(int)", "int rolls(int, int)", "int home(int, int)", "int homeWay(int, int, int)",
        "int homeGroups(int, int)", "int whence(int, boolean)", "int must(int, int, int)", "int count(int)"};

    public static void main(String[] args) throws Exception {
        constants();
        methods();
        classes();
        documentsFace();
        room();
        CHECKS.end();
    }

    private static void constants() throws Exception {
        String[] names = {"UNKNOWN", "OUTSIDE", "STATE", "FULL", "NONE"};
        int[] values = {-1, -2, -3, -4, -9};
        Set<String> shown = new HashSet<>();
        for (Field field : RollingThings.class.getDeclaredFields()) {
            if (!Modifier.isPrivate(field.getModifiers())) {
                shown.add(field.getName());
            }
        }
        CHECKS.holds("no other field is shown", shown.equals(Set.of(names)));
        for (int k = 0; k < names.length; k++) {
            Field field = RollingThings.class.getField(names[k]);
            CHECKS.due(names[k], field.getInt(null), values[k]);
            CHECKS.due(names[k] + " is", field.getModifiers(), Modifier.PUBLIC | Modifier.STATIC | Modifier.FINAL);
        }
    }

    private static void methods() {
        Set<String> shown = new TreeSet<>();
        Set<String> names = new TreeSet<>();
        for (Method method : RollingThings.class.getDeclaredMethods()) {
            if (Modifier.isPublic(method.getModifiers())) {
                shown.add(told(method));
                names.add(method.getName());
                CHECKS.due(method + " is", method.getModifiers(), Modifier.PUBLIC);
            }
        }
        CHECKS.holds("the methods are " + shown, shown.equals(new TreeSet<>(Arrays.asList(METHODS))));
        for (Class<?> type : allClasses()) {
            for (Method method : type.getDeclaredMethods()) {
                boolean plain = !Modifier.isPublic(method.getModifiers());
                CHECKS.holds(method + " bears a public name", !plain || !names.contains(method.getName()));
                CHECKS.holds(method + " is shown", type != RollingThings.class || !plain
                    || Modifier.isPrivate(method.getModifiers()));
            }
        }
        Constructor<?>[] made = RollingThings.class.getDeclaredConstructors();
        CHECKS.due("constructors", made.length, 1);
        CHECKS.due("the constructor's numbers", made[0].getParameterCount(), 0);
        CHECKS.due("the constructor is", made[0].getModifiers(), Modifier.PUBLIC);
    }

    private static String told(Method method) {
        List<String> types = new ArrayList<>();
        for (Class<?> type : method.getParameterTypes()) {
            types.add(type.getName());
        }
        return method.getReturnType().getName() + " " + method.getName() + "(" + String.join(", ", types) + ")";
    }

    private static List<Class<?>> allClasses() {
        List<Class<?>> all = new ArrayList<>(List.of(RollingThings.class));
        all.addAll(Arrays.asList(RollingThings.class.getDeclaredClasses()));
        return all;
    }

    /** The block under "The public face": what the class shows, row by row. */
    private static void documentsFace() throws IOException {
        String text = Files.readString(DOCUMENT);
        String face = text.substring(text.indexOf("```java"), text.indexOf("```", text.indexOf("```java") + 3));
        Set<String> told = new TreeSet<>();
        Matcher methods = Pattern.compile("public (int|long) (\\w+)\\(([^)]*)\\);").matcher(face);
        while (methods.find()) {
            String types = methods.group(3).replaceAll(" \\w+(?=,|$)", "");
            told.add(methods.group(1) + " " + methods.group(2) + "(" + types + ")");
        }
        CHECKS.holds("the document's methods are " + told, told.equals(new TreeSet<>(Arrays.asList(METHODS))));
        CHECKS.holds("the document's class", face.contains("public final class RollingThings {"));
        CHECKS.holds("the document's constructor", face.contains("public RollingThings();"));
        CHECKS.holds("the document's constants", face.contains(
            "public static final int UNKNOWN = -1, OUTSIDE = -2, STATE = -3, FULL = -4, NONE = -9;"));
        CHECKS.due("the document's rows", face.split("public ").length - 1, METHODS.length + 3);
    }

    private static void classes() {
        CHECKS.due("the class is", RollingThings.class.getModifiers(), Modifier.PUBLIC | Modifier.FINAL);
        for (Class<?> type : allClasses()) {
            CHECKS.due(type + " has classes inside", type == RollingThings.class ? 0 : type.getDeclaredClasses().length, 0);
        }
    }

    /** What an object holds is made with it: 512 calls make it no greater. */
    private static void room() throws Exception {
        RollingThings x = new RollingThings();
        long before = held(x);
        x.board(5, 5);
        for (int n = 0; n < 100; n++) {
            x.shortest(n % 25, n % 24, 24, 0);
            x.cheapest(n % 25, n % 24, 24, 0);
            x.must(n % 75, 24, n % 25);
            x.row(n % 4, n % 7);
            x.next();
        }
        CHECKS.due("what an object holds", held(x), before);
        CHECKS.holds("an object holds " + before + " fields and elements", before < 4500);
    }

    private static long held(RollingThings x) throws Exception {
        return heldBy(x, new IdentityHashMap<>());
    }

    /** The fields and elements of an object and of all that hangs on it. */
    private static long heldBy(Object one, Map<Object, Boolean> seen) throws Exception {
        if (one == null || seen.put(one, true) != null) {
            return 0;
        }
        if (one.getClass().isArray()) {
            return Array.getLength(one);
        }
        long sum = 0;
        for (Field field : one.getClass().getDeclaredFields()) {
            if (!Modifier.isStatic(field.getModifiers())) {
                field.setAccessible(true);
                sum += 1 + (field.getType().isPrimitive() ? 0 : heldBy(field.get(one), seen));
            }
        }
        return sum;
    }
}
