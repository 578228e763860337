import java.io.IOException;
import java.lang.reflect.Method;
import java.lang.reflect.Modifier;
import java.net.URL;
import java.net.URLClassLoader;
import java.nio.file.Files;
import java.nio.file.Path;
import java.util.ArrayList;
import java.util.List;
import java.util.Map;
import java.util.Set;
import java.util.TreeMap;
import java.util.TreeSet;
import java.util.regex.Matcher;
import java.util.regex.Pattern;
import java.util.stream.Stream;
import javax.tools.JavaCompiler;
import javax.tools.ToolProvider;

/**
 * What README.md says of the class must be so: its Java is compiled and run, and each answer that stands behind
 * a call is held against the one that the class gives; its tables are held against the class and the answers shown.
 */
public final class ReadmeTest {
    private static final Pattern BLOCK = Pattern.compile("(?ms)^```java\\n(.*?)^```$");
    /** A call, and behind // the answer that it gives: a number, and words behind a colon. */
    private static final Pattern SHOWN = Pattern.compile("^(\\s*)(x\\.\\w+\\(.*\\)); *// (-?\\d+)(:.*)?$");
    private static final Pattern CALL_ROW =
            Pattern.compile("(?m)^\\| `(\\w+)\\(([^)]*)\\)` \\|(?:[^|]*)\\| ([^|]*) \\|$");
    private static final Map<String, Integer> REFUSALS = new TreeMap<>(Map.of("BAD", FerretCables.BAD,
            "NOT", FerretCables.NOT, "FULL", FerretCables.FULL, "NULL", -11, "INDEX", -12, "CAST", -13,
            "STORE", -14, "SIZE", -15));

    /** The answers that are shown of each call, by its name. */
    private static final Map<String, Set<Long>> ANSWERS = new TreeMap<>();
    private static int looked = 0;
    private static int wrong = 0;

    private static void hold(boolean so, String what) {
        looked++;
        if (!so) {
            wrong++;
            System.out.println("README.md: " + what);
        }
    }

    /** Called by what is made of README.md. */
    public static void due(String call, long got, long want) {
        ANSWERS.computeIfAbsent(call.substring(2, call.indexOf('(')), name -> new TreeSet<>()).add(want);
        hold(got == want, call + " answers " + got + ", shown is " + want);
    }

    /** A block that begins with "static" is a method for the others, each of which is run by itself. */
    private static String program(String readme) {
        StringBuilder members = new StringBuilder();
        StringBuilder run = new StringBuilder("    public static void run() {\n");
        int blocks = 0;
        Matcher block = BLOCK.matcher(readme);
        while (block.find()) {
            if (block.group(1).startsWith("static")) {
                members.append(block.group(1));
                continue;
            }
            members.append("    static void block").append(blocks).append("() {\n");
            for (String line : block.group(1).split("\n")) {
                members.append(asked(line)).append('\n');
            }
            members.append("    }\n");
            run.append("        block").append(blocks).append("();\n");
            blocks++;
        }
        hold(blocks > 0, "no Java is shown");
        return "public final class ReadmeRuns {\n" + members + run + "    }\n}\n";
    }

    private static String asked(String line) {
        Matcher shown = SHOWN.matcher(line);
        if (!shown.matches()) {
            return line;
        }
        String call = shown.group(2);
        return shown.group(1) + "ReadmeTest.due(\"" + call.replace("\"", "\\\"") + "\", " + call + ", "
                + shown.group(3) + "L);";
    }

    private static void runProgram(String readme) throws IOException, ReflectiveOperationException {
        Path at = Files.createTempDirectory("readme");
        try {
            Path file = Files.writeString(at.resolve("ReadmeRuns.java"), program(readme));
            JavaCompiler compiler = ToolProvider.getSystemJavaCompiler();
            hold(compiler != null, "no compiler is at hand, so its Java cannot be run");
            if (compiler == null) {
                return;
            }
            String path = System.getProperty("java.class.path");
            int code = compiler.run(null, null, null, "-cp", path, "-d", at.toString(), file.toString());
            hold(code == 0, "its Java does not compile");
            if (code != 0) {
                return;
            }
            try (URLClassLoader loader = new URLClassLoader(new URL[] {at.toUri().toURL()},
                    ReadmeTest.class.getClassLoader())) {
                loader.loadClass("ReadmeRuns").getMethod("run").invoke(null);
            }
        } finally {
            drop(at);
        }
    }

    private static void drop(Path directory) throws IOException {
        try (Stream<Path> files = Files.list(directory)) {
            for (Path file : files.toList()) {
                Files.delete(file);
            }
        }
        Files.delete(directory);
    }

    private static Map<String, Method> face() {
        Map<String, Method> face = new TreeMap<>();
        for (Method m : FerretCables.class.getDeclaredMethods()) {
            if (Modifier.isPublic(m.getModifiers())) {
                face.put(m.getName(), m);
            }
        }
        return face;
    }

    /** A row for each call, with as many arguments as it takes, and just the refusals that answers show. */
    private static void tableOfCalls(String readme) {
        Map<String, Method> face = face();
        Set<String> told = new TreeSet<>();
        Matcher row = CALL_ROW.matcher(readme);
        while (row.find()) {
            String name = row.group(1);
            hold(told.add(name), name + " has two rows");
            if (!face.containsKey(name)) {
                hold(false, "there is no call " + name);
                continue;
            }
            int takes = row.group(2).isEmpty() ? 0 : row.group(2).split(",").length;
            hold(takes == face.get(name).getParameterCount(), name + " takes " + takes);
            refusalsOf(name, row.group(3));
        }
        hold(told.equals(face.keySet()), "the rows are of " + told);
    }

    private static void refusalsOf(String name, String cell) {
        Set<Long> answers = ANSWERS.getOrDefault(name, Set.of());
        hold(!answers.isEmpty(), "no answer of " + name + " is shown");
        Set<String> shown = new TreeSet<>();
        for (Map.Entry<String, Integer> one : REFUSALS.entrySet()) {
            if (answers.contains((long) one.getValue())) {
                shown.add(one.getKey());
            }
        }
        Set<String> told = new TreeSet<>();
        Matcher word = Pattern.compile("[A-Z]+").matcher(cell);
        while (word.find()) {
            told.add(word.group());
        }
        hold(REFUSALS.keySet().containsAll(told), name + " is refused by " + told);
        // all refusals of get() are one answer
        boolean least = name.equals("get") && answers.contains((long) Integer.MIN_VALUE);
        hold(shown.equals(told) || least, name + ": told are " + told + ", shown are " + shown);
    }

    private static void tableOfRefusals(String readme) {
        for (Map.Entry<String, Integer> one : REFUSALS.entrySet()) {
            hold(readme.contains("| `" + one.getKey() + "` | " + one.getValue() + " |"),
                    "no row tells that " + one.getKey() + " is " + one.getValue());
        }
        hold(readme.contains("`NONE` (" + FerretCables.NONE + ")"), "what NONE is");
    }

    /** The tests that README.md names are those that there are. */
    private static void tests(String readme) throws IOException {
        List<String> there = new ArrayList<>();
        try (Stream<Path> files = Files.list(Path.of("src/test/java"))) {
            files.map(file -> file.getFileName().toString()).filter(name -> name.endsWith("Test.java"))
                    .forEach(name -> there.add(name.replace(".java", "")));
        }
        Set<String> told = new TreeSet<>();
        Matcher name = Pattern.compile("(?m)^- `(\\w+Test)`:").matcher(readme);
        while (name.find()) {
            told.add(name.group(1));
        }
        hold(told.equals(new TreeSet<>(there)), "the tests told are " + told);
        hold(readme.contains(".ci/run") && Files.isExecutable(Path.of(".ci/run")), ".ci/run");
    }

    public static void main(String[] args) throws IOException, ReflectiveOperationException {
        String readme = Files.readString(Path.of("README.md"));
        runProgram(readme);
        tableOfCalls(readme);
        tableOfRefusals(readme);
        tests(readme);
        System.out.println("ReadmeTest: " + looked + " looked at, " + wrong + " not so");
        if (wrong != 0) {
            System.exit(1);
        }
    }
}
