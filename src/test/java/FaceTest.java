import java.io.IOException;
import java.lang.reflect.Array;
import java.lang.reflect.Constructor;
import java.lang.reflect.Field;
import java.lang.reflect.Method;
import java.lang.reflect.Modifier;
import java.nio.file.Files;
import java.nio.file.Path;
import java.util.ArrayDeque;
import java.util.ArrayList;
import java.util.Deque;
import java.util.IdentityHashMap;
import java.util.List;
import java.util.Map;
import java.util.Set;
import java.util.TreeSet;
import java.util.regex.Matcher;
import java.util.regex.Pattern;

/** The public face is that of the document, and the source keeps to the rules of LANGUAGE.md that can be seen. */
public final class FaceTest {
    private static final String[] FACE = {
        "crossing int int", "crossingOf int int", "street int int int boolean", "streetOf int int", "shut int boolean",
        "widen int int", "day int", "feed long int", "law", "turn int int", "may int int int", "walker int int",
        "walkerOf int int", "go int int", "put int int", "far int int int", "first int int int", "free int int",
        "reach int int", "pairs int", "never int", "parts int", "loop int int", "worst int", "opened int",
        "meet int int int", "other int", "prove int int", "row int int", "alterRow int int int", "judge int",
        "sheet int int int", "write int int int", "item int int int", "wides int int int", "shelf int int int int",
        "taken int int", "act int int int", "trace int", "many int", "keep", "again"};
    private static final String[] FORBIDDEN = {
        "\\bthrow\\b", "\\btry\\b", "\\bcatch\\b", "\\bsynchronized\\b", "\\bassert\\b", "->", "::", "Exact\\b",
        "\\bSystem\\.(?!arraycopy)", "\\bimport (?!java\\.util\\.(Arrays|ArrayList|List|Iterator);)", "\\bprotected\\b",
        "\\bvolatile\\b", "\\bnative\\b", "static \\{", "\\bRandom\\b", "\\bThread\\b", "@"};

    public static void main(String[] args) throws IOException, IllegalAccessException {
        methods();
        others();
        membersInside();
        room();
        source();
        Check.end();
    }

    private static void methods() {
        Set<String> due = new TreeSet<>(Set.of(FACE));
        Set<String> names = new TreeSet<>();
        for (String line : FACE) {
            names.add(line.split(" ")[0]);
        }
        Set<String> found = new TreeSet<>();
        for (Method m : LeftTown.class.getDeclaredMethods()) {
            StringBuilder b = new StringBuilder(m.getName());
            for (Class<?> type : m.getParameterTypes()) {
                b.append(' ').append(type.getName());
            }
            if (Modifier.isPublic(m.getModifiers())) {
                found.add(b.toString());
                Check.isTrue(b + " answers an int", m.getReturnType() == int.class);
                Check.isTrue(b + " is of an object", !Modifier.isStatic(m.getModifiers()));
            } else if (!m.isSynthetic()) {
                Check.isTrue(b + " is private", Modifier.isPrivate(m.getModifiers()));
                Check.isTrue(b + " bears another name", !names.contains(m.getName()));
            }
        }
        Check.isTrue("methods " + found, found.equals(due));
    }

    private static void others() {
        Set<String> constants = new TreeSet<>();
        for (Field f : LeftTown.class.getDeclaredFields()) {
            if (Modifier.isPublic(f.getModifiers())) {
                constants.add(f.getName());
            } else {
                Check.isTrue(f + " is private", Modifier.isPrivate(f.getModifiers()));
            }
            Check.isTrue(f + " is final if static", !Modifier.isStatic(f.getModifiers()) || Modifier.isFinal(f.getModifiers()));
        }
        Check.isTrue("constants " + constants, constants.equals(new TreeSet<>(Set.of("BAD", "FULL", "NONE", "STATE"))));
        Check.due("BAD", LeftTown.BAD, -1);
        Check.due("FULL", LeftTown.FULL, -2);
        Check.due("NONE", LeftTown.NONE, -3);
        Check.due("STATE", LeftTown.STATE, -4);
        Constructor<?>[] made = LeftTown.class.getDeclaredConstructors();
        Check.due("constructors", made.length, 1);
        Check.isTrue("the constructor is public", Modifier.isPublic(made[0].getModifiers()));
        Check.isTrue("the class is final", Modifier.isFinal(LeftTown.class.getModifiers()));
        Class<?>[] inside = LeftTown.class.getDeclaredClasses();
        Check.isTrue("twelve classes at most", inside.length <= 11);
        for (Class<?> c : inside) {
            Check.isTrue(c + " is static", Modifier.isStatic(c.getModifiers()));
            Check.isTrue(c + " is not public", !Modifier.isPublic(c.getModifiers()));
        }
    }

    // LANGUAGE.md, rules 5 and 11.
    private static void membersInside() {
        Set<Class<?>> forStatics = Set.of(int.class, long.class, boolean.class, char.class, String.class,
            int[].class, long[].class, char[].class, byte[].class);
        List<Class<?>> all = new ArrayList<>(List.of(LeftTown.class.getDeclaredClasses()));
        all.add(LeftTown.class);
        for (Class<?> c : all) {
            int fields = 0;
            for (Field f : c.getDeclaredFields()) {
                boolean isStatic = Modifier.isStatic(f.getModifiers());
                fields += isStatic ? 0 : 1;
                Check.isTrue(f + " is a constant", !isStatic || Modifier.isFinal(f.getModifiers()) && forStatics.contains(f.getType()));
            }
            Check.isTrue(c + " has twenty fields at most", fields <= 20);
            for (Method m : c.getDeclaredMethods()) {
                Check.isTrue(m + " takes seven at most", m.getParameterCount() <= 7);
            }
        }
    }

    // All calls of a run live in one room of 600,000 objects: a town and what its calls make stay far below.
    private static void room() throws IllegalAccessException {
        LeftTown town = Check.star();
        town.shelf(0, 0, 0, 6);
        town.act(0, 3, 1);
        town.keep();
        Map<Object, Integer> seen = new IdentityHashMap<>();
        Deque<Object> todo = new ArrayDeque<>(List.of(town));
        int sizes = 0;
        while (!todo.isEmpty()) {
            Object it = todo.pop();
            if (seen.put(it, 1) == null) {
                sizes += partsOf(it, todo);
            }
        }
        Check.isTrue(seen.size() + " objects, 300 at most", seen.size() <= 300);
        Check.isTrue(sizes + " fields and elements, 5000 at most", sizes <= 5000);
    }

    private static int partsOf(Object it, Deque<Object> todo) throws IllegalAccessException {
        if (it.getClass().isArray()) {
            int length = Array.getLength(it);
            for (int i = 0; i < length && !it.getClass().getComponentType().isPrimitive(); i++) {
                addPart(Array.get(it, i), todo);
            }
            return length;
        }
        int fields = 0;
        for (Class<?> c = it.getClass(); c != Object.class; c = c.getSuperclass()) {
            for (Field f : c.getDeclaredFields()) {
                if (!Modifier.isStatic(f.getModifiers())) {
                    fields++;
                    f.setAccessible(true);
                    addPart(f.getType().isPrimitive() ? null : f.get(it), todo);
                }
            }
        }
        return fields;
    }

    private static void addPart(Object part, Deque<Object> todo) {
        if (part != null) {
            todo.add(part);
        }
    }

    private static void source() throws IOException {
        String text = Files.readString(Path.of("src/main/java/LeftTown.java"));
        String code = text.replaceAll("(?s)/\\*.*?\\*/", "").replaceAll("//[^\n]*", "");
        for (String word : FORBIDDEN) {
            Matcher m = Pattern.compile(word).matcher(code);
            Check.isTrue("the source has no " + word, !m.find());
        }
        Check.isTrue("no sign above 126", text.chars().allMatch(c -> c < 127));
        Check.isTrue("the longest method has some sixty lines", longestMethod(code) <= 60);
    }

    // By the braces' depth: a method of the class begins at depth 1, one of a class inside at depth 2.
    private static int longestMethod(String code) {
        int most = 0;
        String[] lines = code.split("\n");
        for (int i = 0; i < lines.length; i++) {
            Matcher m = Pattern.compile("^( {4}| {8})[a-z][A-Za-z\\[\\] ]* [a-zA-Z]+\\([^;]*\\) \\{$").matcher(lines[i]);
            if (!m.find()) {
                continue;
            }
            int end = i;
            while (end < lines.length && !lines[end].equals(m.group(1) + "}")) {
                end++;
            }
            most = Math.max(most, end - i + 1);
        }
        Check.isTrue("methods were found", most > 5);
        return most;
    }
}
