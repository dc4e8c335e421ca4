import java.lang.reflect.Constructor;
import java.lang.reflect.Field;
import java.lang.reflect.Method;
import java.lang.reflect.Modifier;
import java.nio.charset.StandardCharsets;
import java.nio.file.Files;
import java.nio.file.Path;
import java.util.Arrays;
import java.util.Map;
import java.util.Set;
import java.util.TreeMap;
import java.util.TreeSet;
import java.util.regex.Matcher;
import java.util.regex.Pattern;

/** The rules of LANGUAGE.md that can be told from the class and its text: the face, and what may not stand there. */
public final class LanguageTest {
    private static final String[] FACE = {
        "int post(int,int,int)", "int guest()", "int worth(int,int,int)", "int chance(int,int)", "int rank(int,int)",
        "int told(int,int)", "int feed(long)", "int end(int)", "int rule()", "int fault()", "int ruleOf(int,int)",
        "int run(int,int)", "int runBy(int,int)", "int best()", "int bestOf(int)", "int price(int)",
        "int cover(long)", "int share(int,int,int)", "long mean(int,int)", "int ends(int,int)",
        "long meanOfRanks(int,int)", "long hope(int,int)", "int hopeFor(int,int)", "int batch(int,int)",
        "int worst(int,int,int)", "int come(int,int)", "int let(int,int)", "int leave(int)", "int undo()",
        "int market(int)", "int sheet(int,int,int)", "int lay(int,int,int)", "int net(int,int,int)",
        "int count(int)"};
    private static final Path SOURCE = Path.of("src/main/java/PairedComing.java");
    private static int wrong;

    public static void main(String[] args) throws Exception {
        checkFace();
        checkClassesInside();
        checkText();
        checkMethods();
        checkDepth();
        System.out.println(wrong == 0 ? "the face and the text are as the rules say" : wrong + " rules are broken");
        if (wrong > 0) System.exit(1);
    }

    private static void must(boolean holds, String what) {
        if (!holds) {
            wrong++;
            System.out.println(what);
        }
    }

    private static String told(Method m) {
        StringBuilder s = new StringBuilder(m.getReturnType().getName()).append(' ').append(m.getName()).append('(');
        for (Class<?> type : m.getParameterTypes()) {
            s.append(s.charAt(s.length() - 1) == '(' ? "" : ",").append(type.getName());
        }
        return s.append(')').toString();
    }

    private static void checkFace() throws Exception {
        int own = PairedComing.class.getModifiers();
        must(Modifier.isPublic(own) && Modifier.isFinal(own), "rule 1: the class is public and final");
        Set<String> open = new TreeSet<>();
        for (Method m : PairedComing.class.getDeclaredMethods()) {
            if (!Modifier.isPrivate(m.getModifiers())) {
                open.add(told(m));
                must(Modifier.isPublic(m.getModifiers()) && !Modifier.isStatic(m.getModifiers()), "rule 1: " + m);
            }
        }
        must(open.equals(new TreeSet<>(Arrays.asList(FACE))), "rule 1: the face is " + open);
        Constructor<?>[] all = PairedComing.class.getDeclaredConstructors();
        must(all.length == 1 && Modifier.isPublic(all[0].getModifiers()) && all[0].getParameterCount() == 0,
            "rule 1: one public constructor");
        Set<String> constants = new TreeSet<>();
        for (Field f : PairedComing.class.getDeclaredFields()) {
            if (Modifier.isPrivate(f.getModifiers())) continue;
            must(f.getType() == int.class && Modifier.isStatic(f.getModifiers()) && Modifier.isFinal(f.getModifiers())
                && Modifier.isPublic(f.getModifiers()), "rule 1: " + f);
            constants.add(f.getName() + " " + f.getInt(null));
        }
        must(constants.equals(Set.of("BAD -1", "STATE -2", "FULL -3", "NONE -4")), "rule 1: constants " + constants);
    }

    private static void checkClassesInside() {
        Set<String> face = new TreeSet<>();
        for (String call : FACE) face.add(call.replaceAll("^\\w+ (\\w+)\\(.*$", "$1"));
        Class<?>[] inside = PairedComing.class.getDeclaredClasses();
        must(inside.length <= 12, "rule 11: " + inside.length + " classes inside");
        for (Class<?> c : inside) {
            must(Modifier.isStatic(c.getModifiers()), "rule 2: " + c + " is not static");
            must(!Modifier.isPublic(c.getModifiers()) && !Modifier.isProtected(c.getModifiers()), "rule 1: " + c);
            int fields = 0;
            for (Field f : c.getDeclaredFields()) if (!Modifier.isStatic(f.getModifiers())) fields++;
            must(fields <= 20, "rule 11: " + c + " has " + fields + " fields");
            for (Method m : c.getDeclaredMethods()) {
                must(!face.contains(m.getName()), "rule 1: " + m + " bears the name of a public one");
            }
        }
        for (Class<?> c : allClasses()) {
            for (Field f : c.getDeclaredFields()) {
                must(!Modifier.isStatic(f.getModifiers()) || Modifier.isFinal(f.getModifiers()), "rule 5: " + f);
            }
            for (Method m : c.getDeclaredMethods()) {
                must(m.getParameterCount() <= 7, "rule 11: " + m + " takes more than seven");
            }
        }
    }

    private static Class<?>[] allClasses() {
        Class<?>[] inside = PairedComing.class.getDeclaredClasses();
        Class<?>[] all = Arrays.copyOf(inside, inside.length + 1);
        all[inside.length] = PairedComing.class;
        return all;
    }

    private static String code() throws Exception {
        String text = Files.readString(SOURCE, StandardCharsets.ISO_8859_1);
        return text.replaceAll("(?s)/\\*.*?\\*/", " ").replaceAll("//[^\n]*", " ");
    }

    private static void checkText() throws Exception {
        String text = Files.readString(SOURCE, StandardCharsets.ISO_8859_1);
        must(text.chars().allMatch(c -> c < 128), "rule 4: signs are 1 to 127");
        String code = code();
        for (String word : new String[] {"throw", "throws", "try", "catch", "synchronized", "assert", "package",
            "Object", "System\\.(?!arraycopy)\\w+", "Math\\.\\w*(?:random|Exact)", "equals", "hashCode", "toString",
            "volatile", "native", "protected", "var"}) {
            Matcher m = Pattern.compile("\\b" + word + "\\b").matcher(code);
            must(!m.find(), "rule 4 or 6: " + word + " stands in the text");
        }
        must(!code.contains("->") && !code.contains("::"), "rule 2: no lambda, no method reference");
        Matcher imports = Pattern.compile("import ([^;]*);").matcher(code);
        while (imports.find()) {
            must(Set.of("java.util.Arrays", "java.util.ArrayList", "java.util.List").contains(imports.group(1)),
                "rule 4: import of " + imports.group(1));
        }
    }

    /** Which of the file's methods each one calls, by their names alone: what bears one name counts as one. */
    private static Map<String, Set<String>> calls() throws Exception {
        Map<String, Set<String>> calls = new TreeMap<>();
        String code = code().replaceAll("\\b(Arrays|System|Math)\\.\\w+\\(", "(");
        String name = "";
        for (String line : code.split("\n")) {
            Matcher head = Pattern.compile("^(?: {4}| {8})(?:\\w+ )*\\w+(?:\\[\\])? (\\w+)\\(.*\\) \\{$").matcher(line);
            if (head.find()) {
                name = head.group(1);
                calls.putIfAbsent(name, new TreeSet<>());
                continue;
            }
            Matcher call = Pattern.compile("\\b(\\w+)\\(").matcher(line);
            while (call.find() && !name.isEmpty()) calls.get(name).add(call.group(1));
        }
        for (Set<String> called : calls.values()) called.retainAll(calls.keySet());
        return calls;
    }

    private static int depth(Map<String, Set<String>> calls, String name, Set<String> open) {
        int deepest = 0;
        for (String called : calls.get(name)) {
            if (called.equals(name)) continue;
            if (!open.add(called)) {
                must(false, "rule 8: " + called + " calls itself by way of " + name);
                continue;
            }
            deepest = Math.max(deepest, depth(calls, called, open));
            open.remove(called);
        }
        return deepest + 1;
    }

    private static void checkDepth() throws Exception {
        Map<String, Set<String>> calls = calls();
        for (String name : calls.keySet()) {
            int deep = depth(calls, name, new TreeSet<>(Set.of(name)));
            must(deep <= 8, "rule 11: calls from " + name + " go " + deep + " deep");
        }
    }

    /** Methods as the text has them, by the indentation that the file keeps to. */
    private static void checkMethods() throws Exception {
        int from = -1;
        String head = "";
        String[] lines = Files.readString(SOURCE, StandardCharsets.ISO_8859_1).split("\n");
        for (int i = 0; i < lines.length; i++) {
            must(lines[i].length() <= 120, "line " + (i + 1) + " is long");
            if (lines[i].matches("^( {4}| {8})[a-zA-Z].*\\) \\{$")) {
                from = i;
                head = lines[i].trim();
            }
            if (from >= 0 && lines[i].matches("^( {4}| {8})\\}$")) {
                must(i - from <= 60, "rule 11: " + head + " has " + (i - from) + " lines");
                from = -1;
            }
        }
    }
}
