import java.io.File;
import java.lang.reflect.Method;
import java.lang.reflect.Modifier;
import java.net.URL;
import java.net.URLClassLoader;
import java.nio.file.Files;
import java.nio.file.Path;
import java.util.ArrayList;
import java.util.Comparator;
import java.util.List;
import java.util.TreeSet;
import java.util.regex.Matcher;
import java.util.regex.Pattern;
import java.util.stream.Stream;
import javax.tools.JavaCompiler;
import javax.tools.ToolProvider;

/** README.md as it is tried: its Java is compiled and run, each answer against the one told. Run from the project's folder. */
public final class ReadmeTest {
    static final Pattern TOLD = Pattern.compile("(office\\.(\\w+)\\(.*\\));\\s+// (-?\\d+)(: .+)?");
    static final int CALLS = 512;
    static int wrong = 0;

    static void refuse(String why) {
        wrong++;
        System.out.println(why);
    }

    static List<String> javaLines(List<String> readme) {
        List<String> lines = new ArrayList<>();
        boolean inside = false;
        for (String line : readme) {
            if (line.startsWith("```")) inside = line.equals("```java");
            else if (inside) lines.add(line);
        }
        return lines;
    }

    /** A class whose run() makes the calls, in their order, and answers what was answered. */
    static String program(List<String> lines, List<Matcher> told) {
        StringBuilder source = new StringBuilder("public final class ReadmeUse {\n    public static java.util.List<Long> run() {\n"
            + "        java.util.List<Long> answers = new java.util.ArrayList<>();\n");
        for (String line : lines) {
            Matcher call = TOLD.matcher(line);
            if (call.matches()) {
                told.add(call);
                source.append("answers.add((long) ").append(call.group(1)).append(");\n");
            } else {
                if (line.contains("//")) refuse("no told answer in: " + line);
                source.append(line).append('\n');
            }
        }
        return source.append("        return answers;\n    }\n}\n").toString();
    }

    @SuppressWarnings("unchecked")
    static List<Long> answers(String source) throws Exception {
        JavaCompiler compiler = ToolProvider.getSystemJavaCompiler();
        Path folder = Files.createTempDirectory("readme");
        try {
            Path file = folder.resolve("ReadmeUse.java");
            Files.writeString(file, source);
            int failed = compiler.run(null, null, null, "-cp", System.getProperty("java.class.path"), "-d", folder.toString(), file.toString());
            if (failed != 0) return null;
            try (URLClassLoader loader = new URLClassLoader(new URL[] {folder.toUri().toURL()}, ReadmeTest.class.getClassLoader())) {
                return (List<Long>) loader.loadClass("ReadmeUse").getMethod("run").invoke(null);
            }
        } finally {
            try (Stream<Path> all = Files.walk(folder)) {
                all.sorted(Comparator.reverseOrder()).map(Path::toFile).forEach(File::delete);
            }
        }
    }

    static void use(List<String> readme) throws Exception {
        List<Matcher> told = new ArrayList<>();
        List<Long> answers = answers(program(javaLines(readme), told));
        if (answers == null) {
            refuse("its Java does not compile");
            return;
        }
        for (int i = 0; i < told.size(); i++) {
            long want = Long.parseLong(told.get(i).group(3));
            if (answers.get(i) != want) refuse(told.get(i).group(1) + " answered " + answers.get(i) + ", it tells " + want);
        }
        if (told.size() > CALLS) refuse("more than 512 calls");
        eachCallIsTold(told);
        System.out.println(told.size() + " calls of README.md tried");
    }

    static void eachCallIsTold(List<Matcher> told) {
        TreeSet<String> missing = new TreeSet<>();
        for (Method m : FoundVirtues.class.getDeclaredMethods()) if (Modifier.isPublic(m.getModifiers())) missing.add(m.getName());
        for (Matcher call : told) missing.remove(call.group(2));
        if (!missing.isEmpty()) refuse("it does not tell of " + missing);
    }

    static void tests(List<String> readme) throws Exception {
        TreeSet<String> told = new TreeSet<>();
        for (String line : readme) {
            Matcher test = Pattern.compile("- `(\\w+Test)`: .*").matcher(line);
            if (test.matches()) told.add(test.group(1));
        }
        TreeSet<String> there = new TreeSet<>();
        for (File file : new File("src/test/java").listFiles()) there.add(file.getName().replace(".java", ""));
        if (!told.equals(there)) refuse("it tells of the tests " + told + ", there are " + there);
        if (!new File(".ci/run").canExecute()) refuse(".ci/run cannot be run");
    }

    public static void main(String[] args) throws Exception {
        List<String> readme = Files.readAllLines(Path.of("README.md"));
        use(readme);
        tests(readme);
        System.out.println(wrong == 0 ? "README.md is so" : wrong + " things in README.md are not so");
        if (wrong != 0) System.exit(1);
    }
}
