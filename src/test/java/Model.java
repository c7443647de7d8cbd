import java.util.ArrayList;
import java.util.Arrays;
import java.util.List;
import java.util.function.BiPredicate;

/**
 * The document read a second time, in the plainest way and with other means than the class: what
 * LeftTown answers is compared with it in ModelTest. Not fast, and not bound to LANGUAGE.md.
 */
final class Model {
    static final int BAD = -1, FULL = -2, NONE = -3, STATE = -4;
    private static final int INF = 1 << 28;
    private static final List<String> KINDS = List.of("turn", "on", "left", "sharp", "right", "round");
    private static final int[] ABOVE = {-1, 0, 0, 2, 0, 4};

    private static final class Place {
        int x, y;
    }

    private static final class Road {
        int a, b, wide;
        boolean oneWay, shut;
    }

    private static final class Man {
        int course, width, miles;
    }

    private static final class State {
        List<Place> places = new ArrayList<>();
        List<Road> roads = new ArrayList<>();
        List<Man> men = new ArrayList<>();
        int day;
        List<String> lawTokens = new ArrayList<>();
        int clauses;

        State copy() {
            State s = new State();
            for (Place p : places) {
                Place q = new Place();
                q.x = p.x;
                q.y = p.y;
                s.places.add(q);
            }
            for (Road r : roads) {
                Road q = new Road();
                q.a = r.a;
                q.b = r.b;
                q.wide = r.wide;
                q.oneWay = r.oneWay;
                q.shut = r.shut;
                s.roads.add(q);
            }
            for (Man m : men) {
                Man q = new Man();
                q.course = m.course;
                q.width = m.width;
                q.miles = m.miles;
                s.men.add(q);
            }
            s.day = day;
            s.lawTokens = new ArrayList<>(lawTokens);
            s.clauses = clauses;
            return s;
        }
    }

    private State s = new State();
    private State keptState = null;
    private String tape = "";
    private List<int[]> rows = new ArrayList<>();
    private final Object[] sheets = new Object[4];
    private final Object[] shelves = new Object[4];
    private List<Integer> trace = new ArrayList<>();

    // ---- the town

    int crossing(int x, int y) {
        if (Math.min(x, y) < 0 || Math.max(x, y) > 9) {
            return BAD;
        }
        if (s.places.size() == 12) {
            return FULL;
        }
        for (Place p : s.places) {
            if (p.x == x && p.y == y) {
                return STATE;
            }
        }
        Place p = new Place();
        p.x = x;
        p.y = y;
        s.places.add(p);
        return s.places.size() - 1;
    }

    private boolean place(int c) {
        return c >= 0 && c < s.places.size();
    }

    private boolean road(int r) {
        return r >= 0 && r < s.roads.size();
    }

    private boolean man(int w) {
        return w >= 0 && w < s.men.size();
    }

    private boolean course(int k) {
        if (k < 0 || !road(k / 2)) {
            return false;
        }
        Road r = s.roads.get(k / 2);
        return !r.shut && !(r.oneWay && k % 2 == 1);
    }

    private int begin(int k) {
        Road r = s.roads.get(k / 2);
        return k % 2 == 0 ? r.a : r.b;
    }

    private int end(int k) {
        return begin(k ^ 1);
    }

    private int length(int k) {
        Place p = s.places.get(begin(k));
        Place q = s.places.get(end(k));
        return Math.abs(p.x - q.x) + Math.abs(p.y - q.y);
    }

    int crossingOf(int c, int what) {
        if (!place(c) || what < 0 || what > 3) {
            return BAD;
        }
        int begins = 0;
        int ends = 0;
        for (int k = 0; k < 40; k++) {
            if (course(k)) {
                begins += begin(k) == c ? 1 : 0;
                ends += end(k) == c ? 1 : 0;
            }
        }
        return new int[] {s.places.get(c).x, s.places.get(c).y, begins, ends}[what];
    }

    int street(int a, int b, int wide, boolean oneWay) {
        if (!place(a) || !place(b) || a == b || wide < 1 || wide > 9) {
            return BAD;
        }
        if (s.roads.size() == 20) {
            return FULL;
        }
        Road r = new Road();
        r.a = a;
        r.b = b;
        r.wide = wide;
        r.oneWay = oneWay;
        s.roads.add(r);
        return s.roads.size() - 1;
    }

    int streetOf(int i, int what) {
        if (!road(i) || what < 0 || what > 5) {
            return BAD;
        }
        Road r = s.roads.get(i);
        return new int[] {r.a, r.b, r.wide, r.oneWay ? 1 : 0, length(2 * i), r.shut ? 1 : 0}[what];
    }

    int shut(int i, boolean is) {
        if (!road(i)) {
            return BAD;
        }
        boolean fresh = s.roads.get(i).shut != is;
        s.roads.get(i).shut = is;
        return fresh ? 1 : 0;
    }

    int widen(int i, int v) {
        if (!road(i) || v < 1 || v > 9) {
            return BAD;
        }
        int was = s.roads.get(i).wide;
        s.roads.get(i).wide = v;
        return was;
    }

    int day(int v) {
        if (v < 0 || v > 6) {
            return BAD;
        }
        int was = s.day;
        s.day = v;
        return was;
    }

    // ---- turns

    int feed(long eight, int n) {
        if (n < 1 || n > 8) {
            return BAD;
        }
        if (tape.length() + n > 200) {
            return FULL;
        }
        StringBuilder b = new StringBuilder(tape);
        for (int i = 0; i < n; i++) {
            b.append((char) (eight & 255));
            eight >>>= 8;
        }
        tape = b.toString();
        return tape.length();
    }

    // The text is cut by a state machine over its tokens: each token is asked what may come now.
    int law() {
        List<String> tokens = new ArrayList<>();
        List<Integer> at = new ArrayList<>();
        java.util.regex.Matcher m = java.util.regex.Pattern.compile("[a-z]+|[0-9]+|[^ ]", java.util.regex.Pattern.DOTALL).matcher(tape);
        while (m.find()) {
            tokens.add(m.group());
            at.add(m.start());
        }
        int size = tape.length();
        tape = "";
        String state = "clause";
        int depth = 0;
        int clauses = 0;
        for (int i = 0; i < tokens.size(); i++) {
            String t = tokens.get(i);
            String next = null;
            boolean value = t.matches("[0-9]{1,4}|wide|was|long|day|width|place");
            switch (state) {
                case "clause":
                    next = KINDS.contains(t) && clauses < 8 ? "kind" : null;
                    break;
                case "kind":
                    next = t.equals(";") ? "clause" : t.equals("if") ? "one" : null;
                    clauses += t.equals(";") ? 1 : 0;
                    break;
                case "one":
                    if (t.equals("not")) {
                        next = "one";
                    } else if (t.equals("(") && depth < 3) {
                        depth++;
                        next = "one";
                    } else if (value) {
                        next = "sign";
                    }
                    break;
                case "sign":
                    next = t.equals("<") || t.equals("=") || t.equals(">") ? "second" : null;
                    break;
                case "second":
                    next = value ? "behind" : null;
                    break;
                default:
                    if (t.equals("and") || t.equals("or")) {
                        next = "one";
                    } else if (t.equals(")") && depth > 0) {
                        depth--;
                        next = "behind";
                    } else if (t.equals(";") && depth == 0) {
                        clauses++;
                        next = "clause";
                    }
                    break;
            }
            if (next == null) {
                return -100 - at.get(i);
            }
            state = next;
        }
        if (!state.equals("clause")) {
            return -100 - size;
        }
        s.lawTokens = tokens;
        s.clauses = clauses;
        return clauses;
    }

    private int kind(int from, int to) {
        if (!course(from) || !course(to) || end(from) != begin(to)) {
            return 0;
        }
        Place a = s.places.get(begin(from));
        Place b = s.places.get(end(from));
        Place c = s.places.get(end(to));
        int z = (b.x - a.x) * (c.y - b.y) - (b.y - a.y) * (c.x - b.x);
        int p = (b.x - a.x) * (c.x - b.x) + (b.y - a.y) * (c.y - b.y);
        if (z == 0) {
            return p > 0 ? 1 : 5;
        }
        return z < 0 ? 4 : p < 0 ? 3 : 2;
    }

    private static boolean under(int kind, int above) {
        for (int k = kind; k >= 0; k = ABOVE[k]) {
            if (k == above) {
                return true;
            }
        }
        return false;
    }

    private int pos;
    private int factFrom, factTo, factWidth;

    private boolean lawful(int from, int to, int width) {
        int kind = kind(from, to);
        if (kind == 0) {
            return false;
        }
        if (s.roads.get(from / 2).wide < width || s.roads.get(to / 2).wide < width || kind == 3 && width > 0) {
            return false;
        }
        if (s.clauses == 0) {
            return kind <= 3;
        }
        factFrom = from;
        factTo = to;
        factWidth = width;
        pos = 0;
        boolean any = false;
        for (int k = 0; k < s.clauses; k++) {
            int told = KINDS.indexOf(s.lawTokens.get(pos++));
            boolean holds = true;
            if (s.lawTokens.get(pos).equals("if")) {
                pos++;
                holds = cond();
            }
            pos++;
            any |= holds && under(kind, told);
        }
        return any;
    }

    private boolean cond() {
        boolean is = all();
        while (s.lawTokens.get(pos).equals("or")) {
            pos++;
            is |= all();
        }
        return is;
    }

    private boolean all() {
        boolean is = one();
        while (s.lawTokens.get(pos).equals("and")) {
            pos++;
            is &= one();
        }
        return is;
    }

    private boolean one() {
        String t = s.lawTokens.get(pos);
        if (t.equals("not")) {
            pos++;
            return !one();
        }
        if (t.equals("(")) {
            pos++;
            boolean is = cond();
            pos++;
            return is;
        }
        int left = value(s.lawTokens.get(pos++));
        String sign = s.lawTokens.get(pos++);
        int right = value(s.lawTokens.get(pos++));
        return sign.equals("<") ? left < right : sign.equals(">") ? left > right : left == right;
    }

    private int value(String t) {
        switch (t) {
            case "wide":
                return s.roads.get(factTo / 2).wide;
            case "was":
                return s.roads.get(factFrom / 2).wide;
            case "long":
                return length(factTo);
            case "day":
                return s.day;
            case "width":
                return factWidth;
            case "place":
                return begin(factTo);
            default:
                return Integer.parseInt(t);
        }
    }

    private static boolean number(int k) {
        return k >= 0 && k < 40;
    }

    private static boolean width(int v) {
        return v >= 0 && v < 10;
    }

    int turn(int from, int to) {
        if (!number(from) || !number(to)) {
            return BAD;
        }
        return kind(from, to) == 0 ? NONE : kind(from, to);
    }

    int may(int from, int to, int width) {
        if (!number(from) || !number(to) || !width(width)) {
            return BAD;
        }
        return kind(from, to) == 0 ? NONE : lawful(from, to, width) ? 1 : 0;
    }

    // ---- walkers

    int walker(int course, int width) {
        if (!width(width) || !course(course) || s.roads.get(course / 2).wide < width) {
            return BAD;
        }
        if (s.men.size() == 4) {
            return FULL;
        }
        Man m = new Man();
        m.course = course;
        m.width = width;
        s.men.add(m);
        return s.men.size() - 1;
    }

    int walkerOf(int w, int what) {
        if (!man(w) || what < 0 || what > 2) {
            return BAD;
        }
        Man m = s.men.get(w);
        return what == 0 ? m.course : what == 1 ? m.width : m.miles;
    }

    int go(int w, int to) {
        if (!man(w) || !number(to)) {
            return BAD;
        }
        Man m = s.men.get(w);
        if (kind(m.course, to) == 0) {
            return NONE;
        }
        if (!lawful(m.course, to, m.width)) {
            return STATE;
        }
        m.course = to;
        m.miles += length(to);
        return m.miles;
    }

    int put(int w, int course) {
        if (!man(w) || !course(course) || s.roads.get(course / 2).wide < s.men.get(w).width) {
            return BAD;
        }
        s.men.get(w).course = course;
        return 1;
    }

    // ---- ways

    // From one COURSE forward, again and again until nothing gets less: LONG gone to be on each COURSE.
    private int[] gone(int from, BiPredicate<Integer, Integer> may) {
        int[] gone = new int[40];
        Arrays.fill(gone, INF);
        gone[from] = 0;
        for (boolean fresh = true; fresh;) {
            fresh = false;
            for (int u = 0; u < 40; u++) {
                for (int v = 0; v < 40 && gone[u] < INF; v++) {
                    if (kind(u, v) != 0 && gone[u] + length(v) < gone[v] && may.test(u, v)) {
                        gone[v] = gone[u] + length(v);
                        fresh = true;
                    }
                }
            }
        }
        return gone;
    }

    private int[] fars(int from, BiPredicate<Integer, Integer> may) {
        int[] fars = new int[12];
        Arrays.fill(fars, INF);
        int[] gone = gone(from, may);
        for (int k = 0; k < 40; k++) {
            if (gone[k] < INF) {
                fars[end(k)] = Math.min(fars[end(k)], gone[k]);
            }
        }
        return fars;
    }

    private int[] fars(int from, int width) {
        return fars(from, (u, v) -> lawful(u, v, width));
    }

    int far(int course, int c, int width) {
        if (!course(course) || !place(c) || !width(width)) {
            return BAD;
        }
        int far = fars(course, width)[c];
        return far == INF ? NONE : far;
    }

    int first(int course, int c, int width) {
        int far = far(course, c, width);
        if (far <= 0) {
            return far == BAD ? BAD : NONE;
        }
        for (int v = 0; v < 40; v++) {
            if (kind(course, v) != 0 && lawful(course, v, width)) {
                int rest = far(v, c, width);
                if (rest >= 0 && rest + length(v) == far) {
                    return v;
                }
            }
        }
        throw new IllegalStateException();
    }

    int free(int a, int b) {
        if (!place(a) || !place(b)) {
            return BAD;
        }
        int least = a == b ? 0 : INF;
        for (int k = 0; k < 40; k++) {
            if (course(k) && begin(k) == a) {
                least = Math.min(least, length(k) + fars(k, (u, v) -> true)[b]);
            }
        }
        return least >= INF ? NONE : least;
    }

    int reach(int course, int width) {
        if (!course(course) || !width(width)) {
            return BAD;
        }
        int set = 0;
        int[] fars = fars(course, width);
        for (int c = 0; c < 12; c++) {
            set |= fars[c] < INF ? 1 << c : 0;
        }
        return set;
    }

    private int pairsOf(BiPredicate<Integer, Integer> may) {
        int count = 0;
        for (int k = 0; k < 40; k++) {
            if (course(k)) {
                for (int far : fars(k, may)) {
                    count += far < INF ? 1 : 0;
                }
            }
        }
        return count;
    }

    int pairs(int width) {
        return width(width) ? pairsOf((u, v) -> lawful(u, v, width)) : BAD;
    }

    int never(int width) {
        if (!width(width)) {
            return BAD;
        }
        int set = 0;
        for (int c = 0; c < s.places.size(); c++) {
            boolean come = false;
            for (int k = 0; k < 40; k++) {
                come |= course(k) && end(k) != c && fars(k, width)[c] < INF;
            }
            set |= come ? 0 : 1 << c;
        }
        return set;
    }

    int parts(int width) {
        if (!width(width)) {
            return BAD;
        }
        int[] group = new int[40];
        int count = 0;
        int[][] gone = new int[40][];
        for (int k = 0; k < 40; k++) {
            gone[k] = course(k) ? gone(k, (u, v) -> lawful(u, v, width)) : null;
        }
        for (int k = 0; k < 40; k++) {
            if (gone[k] == null || group[k] != 0) {
                continue;
            }
            count++;
            for (int l = k; l < 40; l++) {
                if (gone[l] != null && gone[k][l] < INF && gone[l][k] < INF) {
                    group[l] = count;
                }
            }
        }
        return count;
    }

    int loop(int course, int width) {
        if (!course(course) || !width(width)) {
            return BAD;
        }
        int[] gone = gone(course, (u, v) -> lawful(u, v, width));
        int least = INF;
        for (int k = 0; k < 40; k++) {
            if (gone[k] < INF && kind(k, course) != 0 && lawful(k, course, width)) {
                least = Math.min(least, gone[k] + length(course));
            }
        }
        return least == INF ? NONE : least;
    }

    int worst(int width) {
        if (!width(width)) {
            return BAD;
        }
        int most = NONE;
        int[][] free = new int[12][12];
        for (int a = 0; a < s.places.size(); a++) {
            for (int b = 0; b < s.places.size(); b++) {
                free[a][b] = free(a, b);
            }
        }
        for (int k = 0; k < 40; k++) {
            if (!course(k)) {
                continue;
            }
            int[] fars = fars(k, width);
            for (int c = 0; c < s.places.size(); c++) {
                if (fars[c] < INF && free[end(k)][c] >= 0) {
                    most = Math.max(most, fars[c] - free[end(k)][c]);
                }
            }
        }
        return most;
    }

    int opened(int width) {
        if (!width(width)) {
            return BAD;
        }
        int most = pairs(width);
        int best = NONE;
        for (int i = 0; i < s.roads.size(); i++) {
            if (s.roads.get(i).shut) {
                s.roads.get(i).shut = false;
                int count = pairs(width);
                s.roads.get(i).shut = true;
                if (count > most) {
                    most = count;
                    best = i;
                }
            }
        }
        return best;
    }

    int meet(int v, int w, int what) {
        if (!man(v) || !man(w) || v == w || what < 0 || what > 1) {
            return BAD;
        }
        int[] one = fars(s.men.get(v).course, s.men.get(v).width);
        int[] two = fars(s.men.get(w).course, s.men.get(w).width);
        int place = NONE;
        int least = INF;
        for (int c = 11; c >= 0; c--) {
            int greater = Math.max(one[c], two[c]);
            if (greater < INF && greater <= least) {
                least = greater;
                place = c;
            }
        }
        return place == NONE ? NONE : what == 0 ? place : least;
    }

    int other(int bits) {
        if (bits < 0 || bits > 15) {
            return BAD;
        }
        int[] bit = {0, 1, 2, 2, 4, 8};
        return pairsOf((u, v) -> (bits & bit[kind(u, v)]) != 0);
    }

    // ---- rows

    int prove(int course, int c) {
        int far = far(course, c, 0);
        if (far < 0) {
            return far;
        }
        rows = new ArrayList<>();
        int at = course;
        int till = 0;
        while (rows.size() < 20 && end(at) != c) {
            at = first(at, c, 0);
            till += length(at);
            rows.add(new int[] {at, end(at), till});
        }
        return rows.size();
    }

    int row(int i, int what) {
        return i < 0 || i >= rows.size() || what < 0 || what > 2 ? -9 : rows.get(i)[what];
    }

    int alterRow(int i, int what, int v) {
        int was = row(i, what);
        if (i >= 0 && i < rows.size() && what >= 0 && what <= 2) {
            rows.get(i)[what] = v;
        }
        return was;
    }

    int judge(int course) {
        if (!course(course)) {
            return BAD;
        }
        int till = 0;
        for (int i = 0; i < rows.size(); i++) {
            int ahead = i == 0 ? course : rows.get(i - 1)[0];
            int[] r = rows.get(i);
            if (kind(ahead, r[0]) == 0 || !lawful(ahead, r[0], 0)) {
                return i + 1;
            }
            till += length(r[0]);
            if (r[1] != end(r[0]) || r[2] != till) {
                return i + 1;
            }
        }
        return 0;
    }

    // ---- the host

    private static int sortOf(Object row) {
        return row instanceof byte[] ? 0 : row instanceof short[] ? 1 : row instanceof int[] ? 2 : row instanceof long[] ? 3 : 4;
    }

    private static boolean four(int i) {
        return i >= 0 && i < 4;
    }

    int sheet(int sheet, int sort, int n) {
        if (!four(sheet) || sort < -1 || sort > 4 || sort >= 0 && n > 40) {
            return BAD;
        }
        if (sort >= 0 && n < 0) {
            return -14;
        }
        switch (sort) {
            case 0:
                sheets[sheet] = new byte[n];
                break;
            case 1:
                sheets[sheet] = new short[n];
                break;
            case 2:
                sheets[sheet] = new int[n];
                break;
            case 3:
                sheets[sheet] = new long[n];
                break;
            case 4:
                sheets[sheet] = new boolean[n];
                break;
            default:
                sheets[sheet] = null;
                break;
        }
        return 1;
    }

    int write(int sheet, int i, int v) {
        if (!four(sheet)) {
            return BAD;
        }
        Object row = sheets[sheet];
        if (row == null) {
            return -11;
        }
        if (i < 0 || i >= java.lang.reflect.Array.getLength(row)) {
            return -12;
        }
        switch (sortOf(row)) {
            case 0:
                ((byte[]) row)[i] = (byte) v;
                break;
            case 1:
                ((short[]) row)[i] = (short) v;
                break;
            case 2:
                ((int[]) row)[i] = v;
                break;
            case 3:
                ((long[]) row)[i] = v;
                break;
            default:
                ((boolean[]) row)[i] = v != 0;
                break;
        }
        return 1;
    }

    int item(int sheet, int sort, int i) {
        if (!four(sheet) || sort < 0 || sort > 4) {
            return BAD;
        }
        Object row = sheets[sheet];
        if (row != null && sortOf(row) != sort) {
            return -13;
        }
        if (row == null) {
            return -11;
        }
        if (i < 0 || i >= java.lang.reflect.Array.getLength(row)) {
            return -12;
        }
        return sort == 4 ? ((boolean[]) row)[i] ? 1 : 0 : (int) java.lang.reflect.Array.getLong(row, i);
    }

    int wides(int sheet, int i, int n) {
        if (!four(sheet) || n < 0 || n > 20) {
            return BAD;
        }
        if (sheets[sheet] == null) {
            return -11;
        }
        if (!(sheets[sheet] instanceof byte[])) {
            return -13;
        }
        byte[] row = (byte[]) sheets[sheet];
        int came = 0;
        for (int k = 0; k < n; k++) {
            long at = (long) i + k;
            if (at < 0 || at >= row.length) {
                return -12;
            }
            came += widen(k, row[(int) at]) > 0 ? 1 : 0;
        }
        return came;
    }

    int shelf(int shelf, int what, int from, int to) {
        if (!four(shelf) || what < 0 || what > 2) {
            return BAD;
        }
        if (what == 0 && (!number(from) || !number(to)) || what == 1 && !four(from)) {
            return BAD;
        }
        if (what == 0 && kind(from, to) == 0) {
            return NONE;
        }
        shelves[shelf] = what == 0 ? List.of(from, to) : what == 1 ? sheets[from] : null;
        return 1;
    }

    private Object held(int shelf) {
        if (shelves[shelf] instanceof List) {
            List<?> pair = (List<?>) shelves[shelf];
            return kind((Integer) pair.get(0), (Integer) pair.get(1)) == 0 ? null : pair;
        }
        return shelves[shelf];
    }

    int taken(int shelf, int as) {
        if (!four(shelf) || as < 0 || as > 5 && as < 10 || as > 14) {
            return BAD;
        }
        Object held = held(shelf);
        if (held == null) {
            return -11;
        }
        if (held instanceof List) {
            int from = (Integer) ((List<?>) held).get(0);
            int to = (Integer) ((List<?>) held).get(1);
            return as < 10 && under(kind(from, to), as) ? 40 * from + to : -13;
        }
        return as >= 10 && sortOf(held) == as - 10 ? java.lang.reflect.Array.getLength(held) : -13;
    }

    int act(int shelf, int act, int x) {
        trace = new ArrayList<>();
        if (!four(shelf) || !four(act) || !(held(shelf) instanceof List)) {
            return 0;
        }
        List<?> pair = (List<?>) held(shelf);
        int n = (Integer) pair.get(0);
        int a = (Integer) pair.get(1);
        return run(kind(n, a), kind(n, a), act, x, n, a);
    }

    // The ACT of a thing of `kind`, looked up from `at` upwards.
    private int run(int kind, int at, int act, int x, int n, int a) {
        String key = at + "" + act;
        int up = ABOVE[at];
        switch (key) {
            case "00":
                trace.add(10);
                return x + a;
            case "01":
                trace.add(11);
                return run(kind, kind, 0, x, n, a) * 2;
            case "02":
                trace.add(12);
                return x / (a - n);
            case "03":
                trace.add(13);
                return run(kind, kind, 1, x, n, a) ^ n;
            case "10":
                trace.add(20);
                return run(kind, up, 0, x, n, a) * 3;
            case "21":
                trace.add(30);
                return run(kind, up, 1, x, n, a) - a;
            case "42":
                trace.add(40);
                return run(kind, up, 2, x + 1, n, a);
            case "30":
                trace.add(50);
                return run(kind, up, 0, x, n, a) ^ n;
            case "33":
                trace.add(51);
                return run(kind, up, 3, x, n, a) + run(kind, kind, 2, n, n, a);
            case "51":
                trace.add(60);
                return 0 - run(kind, up, 1, x, n, a);
            case "52":
                trace.add(61);
                return run(kind, up, 2, x, n, a) + run(kind, kind, 0, n, n, a);
            default:
                return run(kind, up, act, x, n, a);
        }
    }

    int trace(int i) {
        return i < 0 || i >= Math.min(30, trace.size()) ? NONE : trace.get(i);
    }

    int many(int what) {
        int courses = 0;
        for (int k = 0; k < 40; k++) {
            courses += course(k) ? 1 : 0;
        }
        int[] all = {s.places.size(), s.roads.size(), courses, s.men.size(), s.clauses, rows.size(), tape.length(), trace.size()};
        return what < 0 || what > 7 ? BAD : all[what];
    }

    // ---- kept

    int keep() {
        keptState = s.copy();
        return 1;
    }

    int again() {
        if (keptState == null) {
            return NONE;
        }
        s = keptState.copy();
        return 1;
    }
}
