import java.io.IOException;
import java.lang.reflect.Constructor;
import java.lang.reflect.Field;
import java.lang.reflect.Method;
import java.lang.reflect.Modifier;
import java.nio.file.Files;
import java.nio.file.Path;
import java.util.ArrayList;
import java.util.List;
import java.util.Map;
import java.util.Set;
import java.util.TreeMap;
import java.util.TreeSet;
import java.util.regex.Matcher;
import java.util.regex.Pattern;

/** The rules of LANGUAGE.md that can be seen in the source or in the compiled classes. */
public final class LanguageTest {
    private static final Path SOURCE = Path.of("src/main/java/LivedAgain.java");
    private static final String[] FACE = {
        "row(int,int,int)int", "set(int,int,int)int", "copy(int,int,int,int,int)int", "drop(int)int",
        "feed(int)int", "village()int", "fault()int", "live(int)int", "again(int)int", "stand()int",
        "will(int,int)int", "undo()int", "person(int,int)int", "lives(int)int",
        "lived(int,int,boolean)long", "mean(int,int,boolean)long", "best(int,int)int", "rests(int)int",
        "worth(int,int,boolean)long", "knows(int,int,int,boolean)long", "often(int,int,int,int)int",
        "gone(int,int,int,int)int", "image(int)int", "restore(int)int", "kind(int)int", "as(int,int)int",
        "ask(int,int)int", "trace(int)int", "count(int)int", "status()int"};

    private static int wrong = 0;

    public static void main(String[] args) throws IOException {
        String plain = withoutTexts(Files.readString(SOURCE));
        checkWords(plain);
        checkMethodLengths(plain);
        checkLoops(plain);
        checkDepth(plain);
        checkFace();
        checkClasses();
        System.out.println(wrong == 0 ? "language: kept to" : "language: " + wrong + " breaches");
        if (wrong != 0) {
            System.exit(1);
        }
    }

    private static void must(boolean holds, String rule) {
        if (!holds) {
            wrong++;
            System.out.println("language: " + rule);
        }
    }

    private static String withoutTexts(String source) {
        return source.replaceAll("(?s)/\\*.*?\\*/", " ").replaceAll("//[^\n]*", " ")
            .replaceAll("\"[^\"\n]*\"", "\"\"").replaceAll("'[^'\n]*'", "' '");
    }

    private static void checkWords(String plain) {
        String[] banned = {"throw", "throws", "try", "catch", "finally", "synchronized", "assert", "package",
            "Thread", "Object", "Runtime", "Random", "volatile", "transient", "native", "yield", "var", "equals",
            "hashCode", "toString", "goto", "protected", "double", "float"};
        for (String word : banned) {
            must(!Pattern.compile("\\b" + word + "\\b").matcher(plain).find(), "the word " + word);
        }
        must(!plain.contains("->"), "a lambda or an arrow");
        must(!plain.contains("::"), "a method reference");
        must(!plain.contains("@"), "an annotation");
        must(!plain.contains("\""), "a text, that could be joined by +");
        must(!plain.contains("Exact("), "an Exact function");
        must(!Pattern.compile("static\\s*\\{").matcher(plain).find(), "a static block");
        must(!Pattern.compile("while\\s*\\(\\s*true").matcher(plain).find(), "a loop without an end");
        Set<String> library = new TreeSet<>();
        Matcher calls = Pattern.compile("\\b(Arrays|System|Math|Integer|Long|String|StringBuilder)\\.(\\w+)").matcher(plain);
        while (calls.find()) {
            library.add(calls.group(1) + "." + calls.group(2));
        }
        library.removeAll(Set.of("Arrays.fill", "Arrays.copyOf", "System.arraycopy", "Math.min", "Math.max",
            "Math.abs", "Integer.bitCount"));
        must(library.isEmpty(), "library calls beyond the list: " + library);
        Matcher imports = Pattern.compile("import\\s+([\\w.*]+)").matcher(plain);
        while (imports.find()) {
            must(imports.group(1).equals("java.util.Arrays"), "import of " + imports.group(1));
        }
    }

    private static void checkMethodLengths(String plain) {
        int began = 0;
        String[] lines = plain.split("\n", -1);
        for (int i = 0; i < lines.length; i++) {
            if (lines[i].matches(" {4}( {4})?\\S.*\\) \\{")) {
                began = i;
            } else if (lines[i].matches(" {4}( {4})?\\}")) {
                must(i - began <= 60, "a method of over sixty lines at " + (began + 1));
            }
        }
    }

    /** Rule 9: a loop's head has a counter against a bound, or goes over an array. */
    private static void checkLoops(String plain) {
        Matcher heads = Pattern.compile("\\b(for|while)\\s*\\((.*)\\)\\s*\\{").matcher(plain);
        while (heads.find()) {
            String head = heads.group(2);
            must(head.matches(".*\\w+ (<|<=|>|>=) .+") || head.contains(" : "), "a loop without a bound: " + head);
        }
        must(!Pattern.compile("\\bdo\\b").matcher(plain).find(), "a do, whose end is not looked at here");
    }

    /** Rule 11, by names: from each method, how deep the calls go that are made in its lines (a name once on a way). */
    private static void checkDepth(String plain) {
        Map<String, Set<String>> called = new TreeMap<>();
        Pattern begin = Pattern.compile("(?m)^ {4}(?: {4})?(?:\\w+(?:\\[\\])* )*(\\w+)\\([^)]*\\) \\{$");
        Matcher methods = begin.matcher(plain);
        List<Integer> starts = new ArrayList<>();
        List<String> names = new ArrayList<>();
        while (methods.find()) {
            starts.add(methods.end());
            names.add(methods.group(1));
        }
        must(names.containsAll(List.of("LivedAgain", "rests", "findRests", "personAt", "Gambler")), "methods are found");
        for (int i = 0; i < names.size(); i++) {
            int end = plain.indexOf("\n" + " ".repeat(indentAt(plain, starts.get(i))) + "}", starts.get(i));
            Matcher calls = Pattern.compile("(\\w+)\\(").matcher(plain.substring(starts.get(i), end));
            Set<String> to = called.computeIfAbsent(names.get(i), name -> new TreeSet<>());
            while (calls.find()) {
                to.add(calls.group(1));
            }
        }
        for (String name : called.keySet()) {
            int depth = depthFrom(name, called, new TreeSet<>());
            must(depth <= 8, "calls go " + depth + " deep from " + name);
        }
    }

    private static int indentAt(String plain, int at) {
        int line = plain.lastIndexOf('\n', at - 1) + 1;
        int indent = 0;
        while (plain.charAt(line + indent) == ' ') {
            indent++;
        }
        return indent;
    }

    private static int depthFrom(String name, Map<String, Set<String>> called, Set<String> open) {
        int most = 0;
        open.add(name);
        for (String next : called.get(name)) {
            if (called.containsKey(next) && !open.contains(next)) {
                most = Math.max(most, depthFrom(next, called, open));
            }
        }
        open.remove(name);
        return most + 1;
    }

    private static void checkFace() {
        Class<?> face = LivedAgain.class;
        must(Modifier.isPublic(face.getModifiers()) && Modifier.isFinal(face.getModifiers()), "public and final");
        Set<String> due = new TreeSet<>(List.of(FACE));
        Set<String> found = new TreeSet<>();
        for (Method m : face.getDeclaredMethods()) {
            if (!Modifier.isPrivate(m.getModifiers())) {
                List<String> types = new ArrayList<>();
                for (Class<?> type : m.getParameterTypes()) {
                    types.add(type.getName());
                }
                found.add(m.getName() + "(" + String.join(",", types) + ")" + m.getReturnType().getName());
                must(Modifier.isPublic(m.getModifiers()), "not public: " + m.getName());
            }
        }
        must(due.equals(found), "the face is " + found);
        Set<String> constants = new TreeSet<>();
        for (Field f : face.getDeclaredFields()) {
            if (!Modifier.isPrivate(f.getModifiers())) {
                constants.add(f.getName());
            }
        }
        must(constants.equals(Set.of("NONE", "BAD", "STATE", "FULL")), "the constants are " + constants);
        Constructor<?>[] made = face.getDeclaredConstructors();
        must(made.length == 1 && made[0].getParameterCount() == 0, "one constructor");
    }

    /** Rule 3: numbers and truths, arrays of them up to two dimensions, own classes and arrays of them of one. */
    private static boolean isAllowed(Class<?> type, List<Class<?>> own) {
        if (type.isPrimitive() || own.contains(type)) {
            return true;
        }
        Class<?> part = type.getComponentType();
        if (part == null) {
            return false;
        }
        return part.isPrimitive() || own.contains(part) || part.isArray() && part.getComponentType().isPrimitive();
    }

    private static void checkClasses() {
        Set<String> publicNames = new TreeSet<>();
        for (String signature : FACE) {
            publicNames.add(signature.substring(0, signature.indexOf('(')));
        }
        Class<?>[] inside = LivedAgain.class.getDeclaredClasses();
        must(inside.length + 1 <= 12, "over twelve classes");
        List<Class<?>> all = new ArrayList<>(List.of(inside));
        all.add(LivedAgain.class);
        for (Class<?> c : all) {
            boolean isFace = c == LivedAgain.class;
            must(isFace || Modifier.isStatic(c.getModifiers()), c + " is not static");
            must(isFace || (c.getModifiers() & (Modifier.PUBLIC | Modifier.PROTECTED)) == 0, c + " is seen outside");
            int fields = 0;
            for (Field f : c.getDeclaredFields()) {
                boolean isStatic = Modifier.isStatic(f.getModifiers());
                fields += isStatic ? 0 : 1;
                must(!isStatic || Modifier.isFinal(f.getModifiers()), f + " is static, not final");
                must(!isStatic || f.getType() == int.class || f.getType() == long.class, f + " is no constant of numbers");
                must(isAllowed(f.getType(), all), f + " has a type that is not listed");
            }
            must(fields <= 20, c + " has over twenty fields");
            for (Method m : c.getDeclaredMethods()) {
                must(m.getParameterCount() <= 7, m + " takes over seven parameters");
                must(isFace && Modifier.isPublic(m.getModifiers()) || !publicNames.contains(m.getName()),
                    m + " bears a public name");
                must(!m.isSynthetic(), m + " is synthetic");
            }
        }
    }
}
