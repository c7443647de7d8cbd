import java.io.ByteArrayOutputStream;
import java.io.File;
import java.io.IOException;
import java.io.PrintStream;
import java.lang.reflect.Method;
import java.lang.reflect.Modifier;
import java.net.URL;
import java.net.URLClassLoader;
import java.nio.file.Files;
import java.nio.file.Path;
import java.util.ArrayList;
import java.util.List;
import java.util.Set;
import java.util.TreeSet;
import java.util.regex.Matcher;
import java.util.regex.Pattern;
import javax.tools.JavaCompiler;
import javax.tools.ToolProvider;

/** README.md tells the class and its tests as they are: what it shows is run, what it lists is there. */
public final class ReadmeTest {
    private static final Pattern CALL = Pattern.compile("^town\\.(\\w+)\\((.*)\\);\\s+// (-?\\d+)(:.*)?$");
    private static final Pattern LISTED = Pattern.compile("(?m)^\\| `(\\w+Test)` \\|");

    public static void main(String[] args) throws Exception {
        String page = Files.readString(Path.of("README.md"));
        calls(page);
        everyCallIsShown(page);
        everyTestIsListed(page);
        program(page);
        Check.isTrue("README.md tells how all tests are run", page.contains("\n    .ci/run\n"));
        Check.isTrue("README.md tells where the document is", page.contains("`../shared/DOC.md`"));
        Check.end();
    }

    private static List<String> blocks(String page, String sort) {
        List<String> found = new ArrayList<>();
        Matcher m = Pattern.compile("(?s)```" + sort + "\n(.*?)```").matcher(page);
        while (m.find()) {
            found.add(m.group(1));
        }
        return found;
    }

    private static void calls(String page) throws ReflectiveOperationException {
        LeftTown town = new LeftTown();
        int shown = 0;
        for (String block : blocks(page, "java")) {
            if (block.contains(" class ")) {
                continue;
            }
            for (String line : block.split("\n")) {
                if (line.equals("LeftTown town = new LeftTown();")) {
                    town = new LeftTown();
                    continue;
                }
                Matcher m = CALL.matcher(line);
                boolean isCall = m.find();
                Check.isTrue("a call with its answer: " + line, isCall);
                if (isCall) {
                    Check.due(line, answerOf(town, m.group(1), m.group(2)), Integer.parseInt(m.group(3)));
                    shown++;
                }
            }
        }
        Check.isTrue("calls are shown", shown > 0);
    }

    private static int answerOf(LeftTown town, String name, String told) throws ReflectiveOperationException {
        for (Method m : LeftTown.class.getMethods()) {
            if (m.getName().equals(name) && m.getReturnType() == int.class) {
                String[] texts = told.isEmpty() ? new String[0] : told.split(", ");
                Object[] values = new Object[texts.length];
                Class<?>[] types = m.getParameterTypes();
                for (int i = 0; i < texts.length && i < types.length; i++) {
                    values[i] = valueOf(texts[i], types[i]);
                }
                return (Integer) m.invoke(town, values);
            }
        }
        Check.isTrue("there is a call " + name, false);
        return 0;
    }

    private static Object valueOf(String text, Class<?> type) {
        if (type == boolean.class) {
            return text.equals("true");
        }
        if (type == long.class) {
            return Long.decode(text.replace("L", ""));
        }
        return Integer.decode(text);
    }

    private static void everyCallIsShown(String page) {
        StringBuilder shown = new StringBuilder();
        for (String block : blocks(page, "java")) {
            shown.append(block);
        }
        for (Method m : LeftTown.class.getDeclaredMethods()) {
            if (Modifier.isPublic(m.getModifiers())) {
                Check.isTrue("README.md shows " + m.getName(), shown.indexOf("town." + m.getName() + "(") >= 0);
            }
        }
    }

    private static void everyTestIsListed(String page) {
        Set<String> listed = new TreeSet<>();
        Matcher m = LISTED.matcher(page);
        while (m.find()) {
            listed.add(m.group(1));
        }
        Set<String> there = new TreeSet<>();
        String[] files = new File("src/test/java").list();
        for (String name : files == null ? new String[0] : files) {
            if (name.endsWith("Test.java")) {
                there.add(name.substring(0, name.length() - ".java".length()));
            }
        }
        Check.isTrue("README.md lists " + there + ", it has " + listed, there.equals(listed));
    }

    // The first program on the page is compiled and run, and prints the first block of text.
    private static void program(String page) throws Exception {
        List<String> texts = blocks(page, "text");
        String source = "";
        for (String block : blocks(page, "java")) {
            source = source.isEmpty() && block.contains(" class Walk ") ? block : source;
        }
        Check.isTrue("README.md shows a program and what it prints", !source.isEmpty() && !texts.isEmpty());
        if (source.isEmpty() || texts.isEmpty()) {
            return;
        }
        Path dir = Files.createTempDirectory("readme");
        try {
            String printed = printedBy(source, dir);
            Check.isTrue("the program printed\n" + printed + "and not\n" + texts.get(0), printed.equals(texts.get(0)));
        } finally {
            for (String name : new String[] {"Walk.java", "Walk.class"}) {
                Files.deleteIfExists(dir.resolve(name));
            }
            Files.deleteIfExists(dir);
        }
    }

    private static String printedBy(String source, Path dir) throws IOException, ReflectiveOperationException {
        Path file = dir.resolve("Walk.java");
        Files.writeString(file, source);
        JavaCompiler javac = ToolProvider.getSystemJavaCompiler();
        String classes = System.getProperty("java.class.path");
        int failed = javac == null ? 1 : javac.run(null, null, null, "-cp", classes, "-d", dir.toString(), file.toString());
        if (failed != 0) {
            return "nothing: it did not compile\n";
        }
        PrintStream out = System.out;
        ByteArrayOutputStream caught = new ByteArrayOutputStream();
        URL[] there = {dir.toUri().toURL()};
        try (URLClassLoader loader = new URLClassLoader(there, ReadmeTest.class.getClassLoader())) {
            System.setOut(new PrintStream(caught, true));
            Class.forName("Walk", true, loader).getMethod("main", String[].class).invoke(null, (Object) new String[0]);
        } finally {
            System.setOut(out);
        }
        return caught.toString().replace(System.lineSeparator(), "\n");
    }
}
