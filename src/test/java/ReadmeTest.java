import java.lang.reflect.Method;
import java.lang.reflect.Modifier;
import java.nio.charset.StandardCharsets;
import java.nio.file.Files;
import java.nio.file.Path;
import java.util.TreeMap;
import java.util.regex.Matcher;
import java.util.regex.Pattern;
import java.util.stream.Stream;

/** README.md: the calls it shows answer what stands behind them, and it names every call and every test. */
public final class ReadmeTest {
    private static final Pattern SHOWN = Pattern.compile("^x\\.(\\w+)\\(([^)]*)\\); +// (-?\\d+)(?:: .*)?$");
    private static final TreeMap<String, Method> FACE = new TreeMap<>();
    private static int shown;
    private static int wrong;

    public static void main(String[] args) throws Exception {
        String text = Files.readString(Path.of("README.md"), StandardCharsets.UTF_8);
        for (Method m : PairedComing.class.getDeclaredMethods()) {
            if (Modifier.isPublic(m.getModifiers())) FACE.put(m.getName(), m);
        }
        String block = text.replaceAll("(?s)^.*?```java\n(.*?)```.*$", "$1");
        PairedComing x = new PairedComing();
        for (String line : block.split("\n")) {
            if (line.startsWith("x.")) runLine(x, line);
        }
        must(shown > 0, "shows no call");
        for (String name : FACE.keySet()) must(text.contains("`" + name + "`"), "does not name the call " + name);
        nameTests(text);
        System.out.println(shown + " calls shown, " + wrong + " faults of README.md");
        if (wrong > 0) System.exit(1);
    }

    private static void must(boolean holds, String what) {
        if (!holds) {
            wrong++;
            System.out.println("README.md " + what);
        }
    }

    private static void runLine(PairedComing x, String line) throws Exception {
        Matcher m = SHOWN.matcher(line);
        if (!m.matches() || !FACE.containsKey(m.group(1))) {
            must(false, "shows what is no call with its answer: " + line);
            return;
        }
        Method call = FACE.get(m.group(1));
        String[] told = m.group(2).isEmpty() ? new String[0] : m.group(2).split(", ");
        Object[] with = new Object[told.length];
        for (int i = 0; i < told.length; i++) {
            long v = Long.decode(told[i].replaceAll("L$", ""));
            if (call.getParameterTypes()[i] == long.class) with[i] = v;
            else with[i] = Math.toIntExact(v);
        }
        long got = ((Number) call.invoke(x, with)).longValue();
        must(got == Long.parseLong(m.group(3)), "shows another answer than " + got + ": " + line);
        shown++;
    }

    private static void nameTests(String text) throws Exception {
        try (Stream<Path> files = Files.list(Path.of("src/test/java"))) {
            for (Path file : files.sorted().toList()) {
                String name = file.getFileName().toString().replaceAll("\\.java$", "");
                must(text.contains("`" + name + "`"), "does not name the test " + name);
            }
        }
    }
}
