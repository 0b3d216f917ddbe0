import java.lang.reflect.Constructor;
import java.lang.reflect.Field;
import java.lang.reflect.Method;
import java.lang.reflect.Modifier;
import java.nio.file.Files;
import java.nio.file.Path;
import java.util.List;
import java.util.Set;
import java.util.TreeSet;
import java.util.regex.Matcher;
import java.util.regex.Pattern;

/** The source against those rules of ../shared/LANGUAGE.md that a scan can see. Run from the project's folder. */
public final class LanguageTest {
    static int wrong = 0;

    static void refuse(String why) {
        wrong++;
        System.out.println(why);
    }

    static final Set<String> FACE = Set.of("int type(int,int)", "int wipe(int)", "int undo(int)", "int fault(int)",
        "int virtue(int,int)", "int claimant(int,int)", "int set(int,int)", "int handing(int,int)", "int claim(int,int)",
        "int back(int)", "int read(int)", "int behind(int,int)", "int gone(int,int)", "int empty()", "int sale()", "int saint()",
        "int fitting(int,int)", "int match(int)", "int ask(int)", "int lie(int)", "long guess(int,int)", "int guard(int)",
        "int shelves(int)", "int together(int)", "int seen(int,int,int)", "int forget()", "int when(int)", "int weeks(int,int,int)",
        "int sheet(int,int,int)", "int lose(int)", "int put(int,int,int,int)", "int get(int,int,int)",
        "int copy(int,int,int,int,int)", "int write(int)", "int count(int)", "long digest()");

    static final Set<String> FACE_NAMES = new TreeSet<>();
    static final Set<Class<?>> CONSTANTS = Set.of(int.class, long.class, boolean.class, char.class, String.class);

    static String signature(Method m) {
        StringBuilder parameters = new StringBuilder();
        for (Class<?> p : m.getParameterTypes()) parameters.append(parameters.length() == 0 ? "" : ",").append(p.getName());
        return m.getReturnType().getName() + " " + m.getName() + "(" + parameters + ")";
    }

    static void face() {
        Class<?> face = FoundVirtues.class;
        if (face.getModifiers() != (Modifier.PUBLIC | Modifier.FINAL)) refuse("the class is not public and final alone");
        Set<String> found = new TreeSet<>();
        for (Method m : face.getDeclaredMethods()) {
            if (Modifier.isPrivate(m.getModifiers())) continue;
            found.add(signature(m));
            FACE_NAMES.add(m.getName());
            if (m.getModifiers() != Modifier.PUBLIC) refuse("not just public: " + m);
        }
        if (!found.equals(new TreeSet<>(FACE))) refuse("the face is " + found);
        for (Constructor<?> c : face.getDeclaredConstructors()) {
            if (c.getParameterCount() != 0 || c.getModifiers() != Modifier.PUBLIC) refuse("constructor " + c);
        }
        Set<String> constants = Set.of("NONE", "BAD", "NOT", "FULL");
        for (Field f : face.getDeclaredFields()) {
            if (Modifier.isPrivate(f.getModifiers()) == constants.contains(f.getName())) refuse("field " + f);
        }
        for (Method m : face.getDeclaredMethods()) {
            if (Modifier.isPrivate(m.getModifiers()) && FACE_NAMES.contains(m.getName())) refuse("bears a public name: " + m);
        }
    }

    static void classes() {
        int number = 1;
        for (Class<?> inside : FoundVirtues.class.getDeclaredClasses()) {
            number++;
            if (!Modifier.isStatic(inside.getModifiers())) refuse("not static: " + inside);
            members(inside);
        }
        members(FoundVirtues.class);
        if (number > 12) refuse(number + " classes");
    }

    static void members(Class<?> one) {
        int fields = 0;
        for (Field f : one.getDeclaredFields()) {
            boolean fixed = Modifier.isStatic(f.getModifiers());
            if (!fixed) fields++;
            if (fixed && !Modifier.isFinal(f.getModifiers())) refuse("static and not final: " + f);
            if (fixed && !CONSTANTS.contains(f.getType())) refuse("static, and no constant: " + f);
        }
        if (fields > 20) refuse(fields + " fields in " + one);
        for (Method m : one.getDeclaredMethods()) {
            if (m.getParameterCount() > 7) refuse("parameters: " + m);
            if (one != FoundVirtues.class && FACE_NAMES.contains(m.getName())) refuse("bears a public name: " + m);
        }
    }

    static String bare(String source) {
        return source.replaceAll("(?s)/\\*.*?\\*/", " ").replaceAll("//[^\n]*", " ").replaceAll("'(\\\\.|[^'])'", "' '");
    }

    static void words(String source) {
        for (String word : List.of("throw", "throws", "try", "catch", "finally", "synchronized", "assert", "volatile", "transient",
            "native", "var", "Object", "System.out", "Random", "Thread", "double", "float", "MIN_VALUE", "MAX_VALUE")) {
            if (Pattern.compile("\\b" + Pattern.quote(word) + "\\b").matcher(source).find()) refuse("has the word " + word);
        }
        if (source.contains("->") || source.contains("::")) refuse("has a lambda or a method reference");
        for (int i = 0; i < source.length(); i++) if (source.charAt(i) > 127) refuse("a sign above 127 at " + i);
        Matcher imports = Pattern.compile("import ([^;]*);").matcher(source);
        while (imports.find()) if (!imports.group(1).equals("java.util.Arrays")) refuse("imports " + imports.group(1));
        Set<String> library = Set.of("Arrays.fill", "System.arraycopy", "Math.min", "Math.max", "Integer.bitCount",
            "Integer.numberOfTrailingZeros");
        Matcher calls = Pattern.compile("\\b(Arrays|System|Math|Integer|Long|String|Character)\\.(\\w+)").matcher(source);
        while (calls.find()) if (!library.contains(calls.group())) refuse("calls " + calls.group());
    }

    /** A method's lines, from its head to the brace that stands under it. */
    static void lengths(String source) {
        String[] lines = source.split("\n");
        for (int i = 0; i < lines.length; i++) {
            Matcher head = Pattern.compile("^( +)[\\w\\[\\] ]+\\(.*\\) \\{$").matcher(lines[i]);
            if (!head.find() || lines[i].trim().matches("(if|for|while|switch|} else).*")) continue;
            int end = i;
            while (end < lines.length && !lines[end].equals(head.group(1) + "}")) end++;
            if (end - i + 1 > 60) refuse("long: " + lines[i]);
        }
    }

    public static void main(String[] args) throws Exception {
        String source = Files.readString(Path.of("src/main/java/FoundVirtues.java"));
        face();
        classes();
        words(bare(source));
        lengths(source);
        System.out.println(wrong == 0 ? "the language is kept to" : wrong + " faults of the language");
        if (wrong != 0) System.exit(1);
    }
}
