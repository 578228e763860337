import java.io.IOException;
import java.lang.reflect.Constructor;
import java.lang.reflect.Field;
import java.lang.reflect.Method;
import java.lang.reflect.Modifier;
import java.nio.file.Files;
import java.nio.file.Path;
import java.util.Arrays;
import java.util.IdentityHashMap;
import java.util.Map;
import java.util.Set;
import java.util.TreeMap;
import java.util.TreeSet;
import java.util.regex.Matcher;
import java.util.regex.Pattern;

/** The face of the document, and those rules of LANGUAGE.md that can be seen from outside or in the text. */
public final class ShapeTest {
    private static final String[] FACE = {
        "int type(int)", "int wipe()", "int undo()", "int fault()", "int pipe(int, int)", "int set(int, int)",
        "int letIn(int, int)", "int pull(int)", "int back()", "int read(int)", "int judged()",
        "int state(int, int)", "int wire(int, int)", "int out(int)", "int shortest(int, int, int)",
        "int most(int, int, int)", "int fails(int)", "int soonest()", "int left(int)", "int burns(int)",
        "int lit(int, int)", "int heard(int, int, int)", "int meet(int, int, int, int)",
        "int drowsy(int, int, int)", "int chalk(int, int, int)", "int lies()", "int scene(int)",
        "int scenes(int)", "int cue(int)", "int forget(int)", "int sheet(int, int, int)", "int lose(int)",
        "int lay(int, int, int, int)", "int get(int, int, int)", "int copy(int, int, int, int, int)",
        "int write(int, int, int)", "int count(int)", "long digest()"};
    private static final String[] LEFT_OUT = {"throw", "throws", "try", "catch", "finally", "synchronized",
        "assert", "protected", "native", "volatile", "transient", "var", "package"};
    private static final int MOST_CLASSES = 12, MOST_FIELDS = 20, MOST_PARAMETERS = 7;
    private static final int MOST_LINES = 60, MOST_DEPTH = 8;
    private static final int MOST_OBJECTS = 60, MOST_ELEMENTS = 1000;

    private static int wrong = 0;
    private static int looked = 0;

    private static void hold(boolean so, String what) {
        looked++;
        if (!so) {
            wrong++;
            System.out.println("not so: " + what);
        }
    }

    private static void face() {
        Class<?> c = FerretCables.class;
        hold(Modifier.isPublic(c.getModifiers()) && Modifier.isFinal(c.getModifiers()), "public and final");
        Set<String> due = new TreeSet<>(Arrays.asList(FACE));
        Set<String> seen = new TreeSet<>();
        Set<String> names = new TreeSet<>();
        for (Method m : c.getDeclaredMethods()) {
            if (Modifier.isPublic(m.getModifiers())) {
                seen.add(signature(m));
                names.add(m.getName());
            }
        }
        hold(seen.equals(due), "the face is " + seen);
        for (Method m : c.getDeclaredMethods()) {
            boolean open = Modifier.isPublic(m.getModifiers());
            hold(open || Modifier.isPrivate(m.getModifiers()), m + " is public or private");
            hold(open || !names.contains(m.getName()), m + " bears no public name");
        }
        hold(c.getDeclaredConstructors().length == 1, "one constructor");
        for (Constructor<?> made : c.getDeclaredConstructors()) {
            hold(Modifier.isPublic(made.getModifiers()) && made.getParameterCount() == 0, "the constructor");
        }
    }

    private static String signature(Method m) {
        StringBuilder b = new StringBuilder(m.getReturnType().getSimpleName()).append(' ').append(m.getName());
        b.append('(');
        for (Class<?> p : m.getParameterTypes()) {
            b.append(b.charAt(b.length() - 1) == '(' ? "" : ", ").append(p.getSimpleName());
        }
        return b.append(')').toString();
    }

    private static void constants() throws IllegalAccessException {
        Set<String> seen = new TreeSet<>();
        for (Field f : FerretCables.class.getDeclaredFields()) {
            if (Modifier.isPublic(f.getModifiers())) {
                seen.add(f.getName() + " " + f.getInt(null));
            } else {
                hold(Modifier.isPrivate(f.getModifiers()), f + " is private");
            }
        }
        hold(seen.equals(new TreeSet<>(Arrays.asList("NONE -1", "BAD -2", "NOT -3", "FULL -4"))), "constants " + seen);
    }

    private static void classesInside() {
        Class<?>[] inside = FerretCables.class.getDeclaredClasses();
        hold(inside.length + 1 <= MOST_CLASSES, "some twelve classes");
        fieldsOf(FerretCables.class);
        for (Class<?> c : inside) {
            hold(Modifier.isStatic(c.getModifiers()), c + " is static");
            hold(!Modifier.isPublic(c.getModifiers()) && !Modifier.isProtected(c.getModifiers()), c + " is not open");
            hold(c.getDeclaredClasses().length == 0, c + " has no classes inside");
            fieldsOf(c);
            for (Method m : c.getDeclaredMethods()) {
                hold(m.getParameterCount() <= MOST_PARAMETERS, m + " takes few");
            }
        }
    }

    private static void fieldsOf(Class<?> c) {
        int own = 0;
        for (Field f : c.getDeclaredFields()) {
            if (Modifier.isStatic(f.getModifiers())) {
                hold(Modifier.isFinal(f.getModifiers()), f + " is final");
            } else {
                own++;
            }
        }
        hold(own <= MOST_FIELDS, c + " has few fields");
    }

    private static void text(Path file) throws IOException {
        String text = Files.readString(file);
        String code = text.replaceAll("(?s)/\\*.*?\\*/", "").replaceAll("//[^\n]*", "");
        for (String word : LEFT_OUT) {
            hold(!Pattern.compile("\\b" + word + "\\b").matcher(code).find(), "no " + word);
        }
        hold(!code.contains("->") && !code.contains("::"), "no lambda, no method reference");
        Matcher imports = Pattern.compile("import ([^;]*);").matcher(code);
        while (imports.find()) {
            hold(imports.group(1).equals("java.util.Arrays"), imports.group(1) + " is of the library that is left");
        }
        Matcher uses = Pattern.compile("\\b(Arrays|System|Math|Integer)\\.(\\w+)").matcher(code);
        Set<String> left = Set.of("Arrays.fill", "System.arraycopy", "Math.min", "Math.max", "Math.abs",
                "Integer.bitCount");
        while (uses.find()) {
            hold(left.contains(uses.group()), uses.group() + " is of the library that is left");
        }
        hold(text.chars().allMatch(sign -> sign < 128), "plain signs alone");
        Map<String, String> bodies = bodies(code);
        hold(bodies.size() > FACE.length, "methods were seen");
        Map<String, Integer> depths = new TreeMap<>();
        for (Map.Entry<String, String> one : bodies.entrySet()) {
            hold(one.getValue().split("\n").length <= MOST_LINES, one.getKey() + " is short");
            int depth = depth(one.getKey(), bodies, depths);
            hold(depth <= MOST_DEPTH, one.getKey() + " goes " + depth + " calls deep");
            boolean making = Pattern.compile("\\bnew\\b").matcher(one.getValue()).find();
            hold(!making || Character.isUpperCase(one.getKey().charAt(0)), one.getKey() + " makes nothing");
        }
    }

    /** The text of each method by its name, by the braces that stand where a member's do. */
    private static Map<String, String> bodies(String code) {
        Map<String, String> bodies = new TreeMap<>();
        Matcher m = Pattern.compile("(?ms)^( {4}| {8})(?:\\w[\\w\\[\\]]* )+(\\w+)\\([^)]*\\) \\{\n.*?^\\1\\}$")
                .matcher(code);
        while (m.find()) {
            hold(bodies.put(m.group(2), m.group()) == null, m.group(2) + " is the name of one method alone");
        }
        return bodies;
    }

    /** How many calls stand open at once below and with this one. */
    private static int depth(String name, Map<String, String> bodies, Map<String, Integer> depths) {
        if (depths.containsKey(name)) {
            hold(depths.get(name) > 0, name + " does not call itself");
            return depths.get(name);
        }
        depths.put(name, 0);
        int deepest = 0;
        String body = bodies.get(name);
        Matcher calls = Pattern.compile("(\\w+)\\(").matcher(body.substring(body.indexOf('{')));
        while (calls.find()) {
            if (bodies.containsKey(calls.group(1))) {
                deepest = Math.max(deepest, depth(calls.group(1), bodies, depths));
            }
        }
        depths.put(name, deepest + 1);
        return deepest + 1;
    }

    /** What one object holds: calls make nothing, so this is all that it ever has. */
    private static void room() throws IllegalAccessException {
        FerretCables x = new FerretCables();
        int[] sum = {0, 0};
        weigh(x, sum, new IdentityHashMap<>());
        hold(sum[0] <= MOST_OBJECTS, sum[0] + " objects and arrays");
        hold(sum[1] <= MOST_ELEMENTS, sum[1] + " fields and elements");
    }

    private static void weigh(Object o, int[] sum, Map<Object, Object> seen) throws IllegalAccessException {
        if (seen.put(o, o) != null) {
            return;
        }
        sum[0]++;
        if (o instanceof int[] row) {
            sum[1] += row.length;
            return;
        }
        for (Field f : o.getClass().getDeclaredFields()) {
            if (Modifier.isStatic(f.getModifiers())) {
                continue;
            }
            sum[1]++;
            f.setAccessible(true);
            if (!f.getType().isPrimitive() && f.get(o) != null) {
                weigh(f.get(o), sum, seen);
            }
        }
    }

    public static void main(String[] args) throws IOException, IllegalAccessException {
        face();
        constants();
        classesInside();
        text(Path.of("src/main/java/FerretCables.java"));
        room();
        System.out.println("ShapeTest: " + looked + " looked at, " + wrong + " wrong");
        if (wrong != 0) {
            System.exit(1);
        }
    }
}
