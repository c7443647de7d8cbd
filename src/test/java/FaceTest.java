import java.io.IOException;
import java.lang.reflect.Constructor;
import java.lang.reflect.Field;
import java.lang.reflect.Method;
import java.lang.reflect.Modifier;
import java.nio.file.Files;
import java.nio.file.Path;
import java.util.Set;
import java.util.TreeSet;
import java.util.regex.Matcher;
import java.util.regex.Pattern;

/** The public face is that of the document, and the source keeps to the rules of LANGUAGE.md that can be seen. */
public final class FaceTest {
    private static final String[] FACE = {
        "crossing int int", "crossingOf int int", "street int int int boolean", "streetOf int int", "shut int boolean",
        "widen int int", "day int", "feed long int", "law", "turn int int", "may int int int", "walker int int",
        "walkerOf int int", "go int int", "put int int", "far int int int", "first int int int", "free int int",
        "reach int int", "pairs int", "never int", "parts int", "loop int int", "worst int", "opened int",
        "meet int int int", "other int", "prove int int", "row int int", "alterRow int int int", "judge int",
        "sheet int int int", "write int int int", "item int int int", "wides int int int", "shelf int int int int",
        "taken int int", "act int int int", "trace int", "many int", "keep", "again"};
    private static final String[] FORBIDDEN = {
        "\\bthrow\\b", "\\btry\\b", "\\bcatch\\b", "\\bsynchronized\\b", "\\bassert\\b", "->", "::", "Exact\\b",
        "\\bSystem\\.(?!arraycopy)", "\\bimport (?!java\\.util\\.(Arrays|ArrayList|List|Iterator);)", "\\bprotected\\b",
        "\\bvolatile\\b", "\\bnative\\b", "static \\{", "\\bRandom\\b", "\\bThread\\b", "@"};

    public static void main(String[] args) throws IOException {
        methods();
        others();
        source();
        Check.end();
    }

    private static void methods() {
        Set<String> due = new TreeSet<>(Set.of(FACE));
        Set<String> names = new TreeSet<>();
        for (String line : FACE) {
            names.add(line.split(" ")[0]);
        }
        Set<String> found = new TreeSet<>();
        for (Method m : LeftTown.class.getDeclaredMethods()) {
            StringBuilder b = new StringBuilder(m.getName());
            for (Class<?> type : m.getParameterTypes()) {
                b.append(' ').append(type.getName());
            }
            if (Modifier.isPublic(m.getModifiers())) {
                found.add(b.toString());
                Check.isTrue(b + " answers an int", m.getReturnType() == int.class);
                Check.isTrue(b + " is of an object", !Modifier.isStatic(m.getModifiers()));
            } else if (!m.isSynthetic()) {
                Check.isTrue(b + " is private", Modifier.isPrivate(m.getModifiers()));
                Check.isTrue(b + " bears another name", !names.contains(m.getName()));
            }
        }
        Check.isTrue("methods " + found, found.equals(due));
    }

    private static void others() {
        Set<String> constants = new TreeSet<>();
        for (Field f : LeftTown.class.getDeclaredFields()) {
            if (Modifier.isPublic(f.getModifiers())) {
                constants.add(f.getName());
            } else {
                Check.isTrue(f + " is private", Modifier.isPrivate(f.getModifiers()));
            }
            Check.isTrue(f + " is final if static", !Modifier.isStatic(f.getModifiers()) || Modifier.isFinal(f.getModifiers()));
        }
        Check.isTrue("constants " + constants, constants.equals(new TreeSet<>(Set.of("BAD", "FULL", "NONE", "STATE"))));
        Check.due("BAD", LeftTown.BAD, -1);
        Check.due("FULL", LeftTown.FULL, -2);
        Check.due("NONE", LeftTown.NONE, -3);
        Check.due("STATE", LeftTown.STATE, -4);
        Constructor<?>[] made = LeftTown.class.getDeclaredConstructors();
        Check.due("constructors", made.length, 1);
        Check.isTrue("the constructor is public", Modifier.isPublic(made[0].getModifiers()));
        Check.isTrue("the class is final", Modifier.isFinal(LeftTown.class.getModifiers()));
        Class<?>[] inside = LeftTown.class.getDeclaredClasses();
        Check.isTrue("twelve classes at most", inside.length <= 11);
        for (Class<?> c : inside) {
            Check.isTrue(c + " is static", Modifier.isStatic(c.getModifiers()));
            Check.isTrue(c + " is not public", !Modifier.isPublic(c.getModifiers()));
        }
    }

    private static void source() throws IOException {
        String text = Files.readString(Path.of("src/main/java/LeftTown.java"));
        String code = text.replaceAll("(?s)/\\*.*?\\*/", "").replaceAll("//[^\n]*", "");
        for (String word : FORBIDDEN) {
            Matcher m = Pattern.compile(word).matcher(code);
            Check.isTrue("the source has no " + word, !m.find());
        }
        Check.isTrue("no sign above 126", text.chars().allMatch(c -> c < 127));
        Check.isTrue("the longest method has some sixty lines", longestMethod(code) <= 60);
    }

    // By the braces' depth: a method of the class begins at depth 1, one of a class inside at depth 2.
    private static int longestMethod(String code) {
        int most = 0;
        String[] lines = code.split("\n");
        for (int i = 0; i < lines.length; i++) {
            Matcher m = Pattern.compile("^( {4}| {8})[a-z][A-Za-z\\[\\] ]* [a-zA-Z]+\\([^;]*\\) \\{$").matcher(lines[i]);
            if (!m.find()) {
                continue;
            }
            int end = i;
            while (end < lines.length && !lines[end].equals(m.group(1) + "}")) {
                end++;
            }
            most = Math.max(most, end - i + 1);
        }
        Check.isTrue("methods were found", most > 5);
        return most;
    }
}
