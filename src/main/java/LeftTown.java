import java.util.Arrays;

/**
 * Only to the left: a town of crossings and streets in which one may go on, or to the left, or
 * what a law tells. Words in capitals are those of the document.
 */
public final class LeftTown {
    public static final int BAD = -1, FULL = -2, NONE = -3, STATE = -4;

    private static final int NO_ROW = -9;
    private static final int NOTHING = -11, OUTSIDE = -12, OTHER_SORT = -13, BELOW_ZERO = -14, PARTED = -15;
    private static final int FAULTS = -100;

    private static final int MOST_CROSSINGS = 12, MOST_STREETS = 20, MOST_COURSES = 40, MOST_WALKERS = 4;
    private static final int MOST_CLAUSES = 8, MOST_BYTES = 200, MOST_OPEN = 3, MOST_DIGITS = 4;
    private static final int MOST_ROWS = 20, MOST_ITEMS = 40, MOST_BODIES = 30, SHEETS = 4, SHELVES = 4;
    private static final int LAST_PLACE = 9, WIDEST = 9, LAST_DAY = 6, LAST_ACT = 3, ALL_BITS = 15;

    // A COND's steps are of 2 bytes at least, and no two of the shortest stand side by side.
    private static final int MOST_STEPS = 100;

    private static final int TURN = 0, ON = 1, LEFT = 2, SHARP = 3, RIGHT = 4, ROUND = 5, NO_TURN = -1;

    private static final int X = 0, Y = 1, BEGINS = 2, ENDS = 3;
    private static final int FIRST_END = 0, SECOND_END = 1, WIDE = 2, ONE_WAY = 3, LONG = 4, SHUT = 5, TOLD_OF_STREET = 6;
    private static final int ARROW = 6, STREET_FACTS = 8;
    private static final int COURSE = 0, WIDTH = 1, MILES = 2, WALKER_FACTS = 3;
    private static final int ROW_COURSE = 0, ROW_CROSSING = 1, ROW_LONG = 2, ROW_FACTS = 3;

    private static final int BYTES = 0, SHORTS = 1, BOOLEANS = 4, MISSING = -1;
    private static final int ON_SHELF_NOTHING = 0, ON_SHELF_TURN = 1, ON_SHELF_ROW = 2, AS_ROW = 10;

    // Far above the LONG of any walk: 40 COURSES of 18 at most.
    private static final int NO_WAY = 1000000;
    private static final int BY_LAW = -1;

    private final Town town = new Town();
    private final Town kept = new Town();
    private final LawReader reader = new LawReader();
    private final Ways ways = new Ways();
    private final Host host = new Host();
    private final int[][] rows = new int[MOST_ROWS][ROW_FACTS];
    private int rowCount;
    private boolean isKept;
    private Thing latest;

    public LeftTown() {
        rowCount = 0;
        isKept = false;
        latest = null;
    }

    // ---- the town

    public int crossing(int x, int y) {
        if (x < 0 || x > LAST_PLACE || y < 0 || y > LAST_PLACE) {
            return BAD;
        }
        if (town.crossingCount >= MOST_CROSSINGS) {
            return FULL;
        }
        return town.isTaken(x, y) ? STATE : town.addCrossing(x, y);
    }

    public int crossingOf(int c, int what) {
        if (!town.hasCrossing(c)) {
            return BAD;
        }
        switch (what) {
            case X:
            case Y:
                return town.crossings[c][what];
            case BEGINS:
                return town.countBeginning(c);
            case ENDS:
                return town.countEnding(c);
            default:
                return BAD;
        }
    }

    public int street(int a, int b, int wide, boolean oneWay) {
        if (!town.hasCrossing(a) || !town.hasCrossing(b) || a == b || !isWide(wide)) {
            return BAD;
        }
        return town.streetCount >= MOST_STREETS ? FULL : town.addStreet(a, b, wide, oneWay);
    }

    public int streetOf(int s, int what) {
        if (!town.hasStreet(s) || what < 0 || what >= TOLD_OF_STREET) {
            return BAD;
        }
        return town.streets[s][what];
    }

    public int shut(int s, boolean is) {
        if (!town.hasStreet(s)) {
            return BAD;
        }
        int was = town.streets[s][SHUT];
        town.streets[s][SHUT] = is ? 1 : 0;
        return was == town.streets[s][SHUT] ? 0 : 1;
    }

    public int widen(int s, int v) {
        if (!town.hasStreet(s) || !isWide(v)) {
            return BAD;
        }
        int was = town.streets[s][WIDE];
        town.streets[s][WIDE] = v;
        return was;
    }

    public int day(int v) {
        if (v < 0 || v > LAST_DAY) {
            return BAD;
        }
        int was = town.today;
        town.today = v;
        return was;
    }

    // ---- turns

    public int feed(long eight, int n) {
        if (n < 1 || n > 8) {
            return BAD;
        }
        return reader.size + n > MOST_BYTES ? FULL : reader.takeIn(eight, n);
    }

    public int law() {
        int answer = reader.readText();
        if (answer >= 0) {
            town.rules.copyFrom(reader.made);
        }
        return answer;
    }

    public int turn(int from, int to) {
        if (!isCourseNumber(from) || !isCourseNumber(to)) {
            return BAD;
        }
        int kind = town.turnNow(from, to);
        return kind == NO_TURN ? NONE : kind;
    }

    public int may(int from, int to, int width) {
        if (!isCourseNumber(from) || !isCourseNumber(to) || !isWidth(width)) {
            return BAD;
        }
        if (town.turnNow(from, to) == NO_TURN) {
            return NONE;
        }
        return town.mayGo(from, to, width) ? 1 : 0;
    }

    // ---- walkers

    public int walker(int course, int width) {
        if (!isWidth(width) || !town.hasCourseFor(course, width)) {
            return BAD;
        }
        return town.walkerCount >= MOST_WALKERS ? FULL : town.addWalker(course, width);
    }

    public int walkerOf(int w, int what) {
        if (!town.hasWalker(w) || what < 0 || what >= WALKER_FACTS) {
            return BAD;
        }
        return town.walkers[w][what];
    }

    public int go(int w, int to) {
        if (!town.hasWalker(w) || !isCourseNumber(to)) {
            return BAD;
        }
        int[] who = town.walkers[w];
        if (town.turnNow(who[COURSE], to) == NO_TURN) {
            return NONE;
        }
        if (!town.mayGo(who[COURSE], to, who[WIDTH])) {
            return STATE;
        }
        who[COURSE] = to;
        who[MILES] += town.longOf(to);
        return who[MILES];
    }

    public int put(int w, int course) {
        if (!town.hasWalker(w) || !town.hasCourseFor(course, town.walkers[w][WIDTH])) {
            return BAD;
        }
        town.walkers[w][COURSE] = course;
        return 1;
    }

    // ---- ways

    public int far(int course, int c, int width) {
        if (!town.hasCourse(course) || !town.hasCrossing(c) || !isWidth(width)) {
            return BAD;
        }
        ways.prepare(town, width, BY_LAW);
        ways.measureTo(c);
        int found = ways.leftFrom(course);
        return found == NO_WAY ? NONE : found;
    }

    public int first(int course, int c, int width) {
        if (!town.hasCourse(course) || !town.hasCrossing(c) || !isWidth(width)) {
            return BAD;
        }
        ways.prepare(town, width, BY_LAW);
        ways.measureTo(c);
        return ways.firstFrom(course);
    }

    public int free(int a, int b) {
        if (!town.hasCrossing(a) || !town.hasCrossing(b)) {
            return BAD;
        }
        ways.look(town);
        ways.measureFreely();
        int found = ways.apart[a][b];
        return found == NO_WAY ? NONE : found;
    }

    public int reach(int course, int width) {
        if (!town.hasCourse(course) || !isWidth(width)) {
            return BAD;
        }
        ways.prepare(town, width, BY_LAW);
        return ways.crossingsFrom(course);
    }

    public int pairs(int width) {
        if (!isWidth(width)) {
            return BAD;
        }
        ways.prepare(town, width, BY_LAW);
        return ways.countPairs(ways.courses);
    }

    public int never(int width) {
        if (!isWidth(width)) {
            return BAD;
        }
        ways.prepare(town, width, BY_LAW);
        return ways.crossingsNeverReached();
    }

    public int parts(int width) {
        if (!isWidth(width)) {
            return BAD;
        }
        ways.prepare(town, width, BY_LAW);
        return ways.countParts();
    }

    public int loop(int course, int width) {
        if (!town.hasCourse(course) || !isWidth(width)) {
            return BAD;
        }
        ways.prepare(town, width, BY_LAW);
        int found = ways.loopOf(course);
        return found == NO_WAY ? NONE : found;
    }

    public int worst(int width) {
        if (!isWidth(width)) {
            return BAD;
        }
        ways.prepare(town, width, BY_LAW);
        ways.measureFreely();
        return ways.worstDetour();
    }

    public int opened(int width) {
        if (!isWidth(width)) {
            return BAD;
        }
        ways.prepare(town, width, BY_LAW);
        return ways.bestToOpen();
    }

    public int meet(int v, int w, int what) {
        if (!town.hasWalker(v) || !town.hasWalker(w) || v == w || what < 0 || what > 1) {
            return BAD;
        }
        Arrays.fill(ways.greater, 0);
        ways.prepare(town, town.walkers[v][WIDTH], BY_LAW);
        ways.raiseGreater(town.walkers[v][COURSE]);
        ways.prepare(town, town.walkers[w][WIDTH], BY_LAW);
        ways.raiseGreater(town.walkers[w][COURSE]);
        int c = ways.meetingPlace();
        if (c == NONE) {
            return NONE;
        }
        return what == 0 ? c : ways.greater[c];
    }

    public int other(int bits) {
        if (bits < 0 || bits > ALL_BITS) {
            return BAD;
        }
        ways.prepare(town, 0, bits);
        return ways.countPairs(ways.courses);
    }

    // ---- rows

    public int prove(int course, int c) {
        if (!town.hasCourse(course) || !town.hasCrossing(c)) {
            return BAD;
        }
        ways.prepare(town, 0, BY_LAW);
        ways.measureTo(c);
        if (ways.leftFrom(course) == NO_WAY) {
            return NONE;
        }
        rowCount = ways.writeRows(course, rows);
        return rowCount;
    }

    public int row(int i, int what) {
        return hasRow(i, what) ? rows[i][what] : NO_ROW;
    }

    public int alterRow(int i, int what, int v) {
        if (!hasRow(i, what)) {
            return NO_ROW;
        }
        int was = rows[i][what];
        rows[i][what] = v;
        return was;
    }

    public int judge(int course) {
        if (!town.hasCourse(course)) {
            return BAD;
        }
        int ahead = course;
        int till = 0;
        for (int i = 0; i < rowCount && i < MOST_ROWS; i++) {
            int[] told = rows[i];
            int to = told[ROW_COURSE];
            if (town.turnNow(ahead, to) == NO_TURN || !town.mayGo(ahead, to, 0)) {
                return i + 1;
            }
            till += town.longOf(to);
            if (told[ROW_CROSSING] != town.endOf(to) || told[ROW_LONG] != till) {
                return i + 1;
            }
            ahead = to;
        }
        return 0;
    }

    // ---- the host

    public int sheet(int sheet, int sort, int n) {
        if (!host.hasSheet(sheet) || (sort != MISSING && !isSort(sort))) {
            return BAD;
        }
        if (sort != MISSING && n > MOST_ITEMS) {
            return BAD;
        }
        if (sort != MISSING && n < 0) {
            return BELOW_ZERO;
        }
        host.lay(sheet, sort, sort == MISSING ? 0 : n);
        return 1;
    }

    public int write(int sheet, int i, int v) {
        if (!host.hasSheet(sheet)) {
            return BAD;
        }
        if (host.sorts[sheet] == MISSING) {
            return NOTHING;
        }
        if (!host.hasItem(sheet, i)) {
            return OUTSIDE;
        }
        host.items[sheet][i] = narrowed(host.sorts[sheet], v);
        return 1;
    }

    public int item(int sheet, int sort, int i) {
        if (!host.hasSheet(sheet) || !isSort(sort)) {
            return BAD;
        }
        int refusal = host.refuseAs(sheet, sort);
        if (refusal != 0) {
            return refusal;
        }
        return host.hasItem(sheet, i) ? (int) host.items[sheet][i] : OUTSIDE;
    }

    public int wides(int sheet, int i, int n) {
        if (!host.hasSheet(sheet) || n < 0 || n > MOST_STREETS) {
            return BAD;
        }
        int refusal = host.refuseAs(sheet, BYTES);
        if (refusal != 0) {
            return refusal;
        }
        int came = 0;
        for (int s = 0; s < n; s++) {
            if (!host.hasItem(sheet, i + s)) {
                return OUTSIDE;
            }
            if (widen(s, (int) host.items[sheet][i + s]) != BAD) {
                came++;
            }
        }
        return came;
    }

    public int shelf(int shelf, int what, int from, int to) {
        if (!host.hasShelf(shelf)) {
            return BAD;
        }
        switch (what) {
            case 0:
                return shelveTurn(shelf, from, to);
            case 1:
                return host.hasSheet(from) ? host.shelveRow(shelf, from) : BAD;
            case 2:
                return host.hold(shelf, ON_SHELF_NOTHING, 0, 0);
            default:
                return BAD;
        }
    }

    public int taken(int shelf, int as) {
        boolean asKind = as >= TURN && as <= ROUND;
        if (!host.hasShelf(shelf) || (!asKind && !isSort(as - AS_ROW))) {
            return BAD;
        }
        if (host.holds[shelf] == ON_SHELF_ROW) {
            return as == AS_ROW + host.one[shelf] ? host.two[shelf] : OTHER_SORT;
        }
        int kind = kindOnShelf(shelf);
        if (kind == NO_TURN) {
            return NOTHING;
        }
        return asKind && isUnder(kind, as) ? MOST_COURSES * host.one[shelf] + host.two[shelf] : OTHER_SORT;
    }

    public int act(int shelf, int act, int x) {
        latest = null;
        if (!host.hasShelf(shelf) || act < 0 || act > LAST_ACT) {
            return 0;
        }
        latest = thingOf(kindOnShelf(shelf), host.one[shelf], host.two[shelf]);
        if (latest == null) {
            return 0;
        }
        switch (act) {
            case 0:
                return latest.turns(x);
            case 1:
                return latest.goes(x);
            case 2:
                return latest.sees(x);
            default:
                return latest.tells(x);
        }
    }

    public int trace(int i) {
        return latest == null || i < 0 || i >= latest.bodyCount ? NONE : latest.bodies[i];
    }

    public int many(int what) {
        switch (what) {
            case 0:
                return town.crossingCount;
            case 1:
                return town.streetCount;
            case 2:
                return town.countCourses();
            case 3:
                return town.walkerCount;
            case 4:
                return town.rules.clauseCount;
            case 5:
                return rowCount;
            case 6:
                return reader.size;
            case 7:
                return latest == null ? 0 : latest.bodyCount;
            default:
                return BAD;
        }
    }

    // ---- kept

    public int keep() {
        kept.copyFrom(town);
        isKept = true;
        return 1;
    }

    public int again() {
        if (!isKept) {
            return NONE;
        }
        town.copyFrom(kept);
        return 1;
    }

    private boolean hasRow(int i, int what) {
        return i >= 0 && i < rowCount && i < MOST_ROWS && what >= 0 && what < ROW_FACTS;
    }

    private int shelveTurn(int shelf, int from, int to) {
        if (!isCourseNumber(from) || !isCourseNumber(to)) {
            return BAD;
        }
        return town.turnNow(from, to) == NO_TURN ? NONE : host.hold(shelf, ON_SHELF_TURN, from, to);
    }

    // A TURN is held by its COURSES: what it is, and whether there is one, is told by the town of now.
    private int kindOnShelf(int shelf) {
        return host.holds[shelf] == ON_SHELF_TURN ? town.turnNow(host.one[shelf], host.two[shelf]) : NO_TURN;
    }

    private static boolean isWide(int v) {
        return v >= 1 && v <= WIDEST;
    }

    private static boolean isWidth(int v) {
        return v >= 0 && v <= WIDEST;
    }

    private static boolean isCourseNumber(int v) {
        return v >= 0 && v < MOST_COURSES;
    }

    private static boolean isSort(int sort) {
        return sort >= BYTES && sort <= BOOLEANS;
    }

    private static boolean isUnder(int kind, int above) {
        return above == TURN || above == kind || (above == LEFT && kind == SHARP) || (above == RIGHT && kind == ROUND);
    }

    private static boolean isIn(long set, int i) {
        return (set >>> i & 1L) != 0;
    }

    private static long narrowed(int sort, int v) {
        switch (sort) {
            case BYTES:
                return (byte) v;
            case SHORTS:
                return (short) v;
            case BOOLEANS:
                return v != 0 ? 1 : 0;
            default:
                return v;
        }
    }

    private static Thing thingOf(int kind, int from, int to) {
        switch (kind) {
            case ON:
                return new On(from, to);
            case LEFT:
                return new Left(from, to);
            case SHARP:
                return new Sharp(from, to);
            case RIGHT:
                return new Right(from, to);
            case ROUND:
                return new Round(from, to);
            default:
                return null;
        }
    }

    /** What keep() keeps: CROSSINGS, STREETS, WALKERS, the DAY and THE LAW. */
    private static final class Town {
        final int[][] crossings = new int[MOST_CROSSINGS][2];
        final int[][] streets = new int[MOST_STREETS][STREET_FACTS];
        final int[][] walkers = new int[MOST_WALKERS][WALKER_FACTS];
        final Law rules = new Law();
        final int[] facts = new int[Law.FACTS];
        int crossingCount;
        int streetCount;
        int walkerCount;
        int today;

        boolean hasCrossing(int c) {
            return c >= 0 && c < crossingCount && c < MOST_CROSSINGS;
        }

        boolean hasStreet(int s) {
            return s >= 0 && s < streetCount && s < MOST_STREETS;
        }

        boolean hasWalker(int w) {
            return w >= 0 && w < walkerCount && w < MOST_WALKERS;
        }

        /** Whether a STREET, open or shut, has such a way by which it may be gone. */
        boolean hasWay(int course) {
            int s = course >> 1;
            return hasStreet(s) && ((course & 1) == 0 || streets[s][ONE_WAY] == 0);
        }

        boolean hasCourse(int course) {
            return hasWay(course) && streets[course >> 1][SHUT] == 0;
        }

        boolean hasCourseFor(int course, int width) {
            return hasCourse(course) && wideOf(course) >= width;
        }

        boolean isTaken(int x, int y) {
            for (int c = 0; c < crossingCount && c < MOST_CROSSINGS; c++) {
                if (crossings[c][X] == x && crossings[c][Y] == y) {
                    return true;
                }
            }
            return false;
        }

        int addCrossing(int x, int y) {
            int c = crossingCount;
            if (c >= MOST_CROSSINGS) {
                return FULL;
            }
            crossings[c][X] = x;
            crossings[c][Y] = y;
            crossingCount++;
            return c;
        }

        int addStreet(int a, int b, int wide, boolean oneWay) {
            int s = streetCount;
            if (s >= MOST_STREETS || !hasCrossing(a) || !hasCrossing(b)) {
                return FULL;
            }
            int[] it = streets[s];
            it[FIRST_END] = a;
            it[SECOND_END] = b;
            it[WIDE] = wide;
            it[ONE_WAY] = oneWay ? 1 : 0;
            it[ARROW + X] = crossings[b][X] - crossings[a][X];
            it[ARROW + Y] = crossings[b][Y] - crossings[a][Y];
            it[LONG] = Math.abs(it[ARROW + X]) + Math.abs(it[ARROW + Y]);
            it[SHUT] = 0;
            streetCount++;
            return s;
        }

        int addWalker(int course, int width) {
            int w = walkerCount;
            if (w >= MOST_WALKERS) {
                return FULL;
            }
            walkers[w][COURSE] = course;
            walkers[w][WIDTH] = width;
            walkers[w][MILES] = 0;
            walkerCount++;
            return w;
        }

        int beginOf(int course) {
            int s = course >> 1;
            return hasStreet(s) ? streets[s][(course & 1) == 0 ? FIRST_END : SECOND_END] : BAD;
        }

        int endOf(int course) {
            int s = course >> 1;
            return hasStreet(s) ? streets[s][(course & 1) == 0 ? SECOND_END : FIRST_END] : BAD;
        }

        int longOf(int course) {
            int s = course >> 1;
            return hasStreet(s) ? streets[s][LONG] : 0;
        }

        int wideOf(int course) {
            int s = course >> 1;
            return hasStreet(s) ? streets[s][WIDE] : 0;
        }

        private int arrowOf(int course, int axis) {
            int s = course >> 1;
            int there = hasStreet(s) ? streets[s][ARROW + axis] : 0;
            return (course & 1) == 0 ? there : -there;
        }

        int countCourses() {
            int count = 0;
            for (int u = 0; u < MOST_COURSES; u++) {
                count += hasCourse(u) ? 1 : 0;
            }
            return count;
        }

        int countBeginning(int c) {
            int count = 0;
            for (int u = 0; u < MOST_COURSES; u++) {
                count += hasCourse(u) && beginOf(u) == c ? 1 : 0;
            }
            return count;
        }

        int countEnding(int c) {
            int count = 0;
            for (int u = 0; u < MOST_COURSES; u++) {
                count += hasCourse(u) && endOf(u) == c ? 1 : 0;
            }
            return count;
        }

        /** KIND of the TURN that there is now, or NO_TURN. */
        int turnNow(int from, int to) {
            return hasCourse(from) && hasCourse(to) ? kindOf(from, to) : NO_TURN;
        }

        /** KIND of the TURN that there is if both STREETS are open, or NO_TURN. */
        int kindOf(int from, int to) {
            if (!hasWay(from) || !hasWay(to) || endOf(from) != beginOf(to)) {
                return NO_TURN;
            }
            int ux = arrowOf(from, X);
            int uy = arrowOf(from, Y);
            int vx = arrowOf(to, X);
            int vy = arrowOf(to, Y);
            int z = ux * vy - uy * vx;
            int p = ux * vx + uy * vy;
            if (z > 0) {
                return p < 0 ? SHARP : LEFT;
            }
            if (z < 0) {
                return RIGHT;
            }
            return p > 0 ? ON : ROUND;
        }

        /** Whether the TURN that there is if both STREETS are open may be gone. */
        boolean mayGo(int from, int to, int width) {
            int kind = kindOf(from, to);
            if (kind == NO_TURN || wideOf(from) < width || wideOf(to) < width) {
                return false;
            }
            if (kind == SHARP && width > 0) {
                return false;
            }
            facts[Law.FACT_WIDE] = wideOf(to);
            facts[Law.FACT_WAS] = wideOf(from);
            facts[Law.FACT_LONG] = longOf(to);
            facts[Law.FACT_DAY] = today;
            facts[Law.FACT_WIDTH] = width;
            facts[Law.FACT_PLACE] = endOf(from);
            return rules.allows(kind, facts);
        }

        /** Whether the TURN is one of those told by bits, each by its own bit alone. */
        boolean isOneOf(int from, int to, int bits) {
            switch (kindOf(from, to)) {
                case ON:
                    return (bits & 1) != 0;
                case LEFT:
                case SHARP:
                    return (bits & 2) != 0;
                case RIGHT:
                    return (bits & 4) != 0;
                case ROUND:
                    return (bits & 8) != 0;
                default:
                    return false;
            }
        }

        void copyFrom(Town from) {
            crossingCount = from.crossingCount;
            streetCount = from.streetCount;
            walkerCount = from.walkerCount;
            today = from.today;
            for (int c = 0; c < MOST_CROSSINGS; c++) {
                System.arraycopy(from.crossings[c], 0, crossings[c], 0, 2);
            }
            for (int s = 0; s < MOST_STREETS; s++) {
                System.arraycopy(from.streets[s], 0, streets[s], 0, STREET_FACTS);
            }
            for (int w = 0; w < MOST_WALKERS; w++) {
                System.arraycopy(from.walkers[w], 0, walkers[w], 0, WALKER_FACTS);
            }
            rules.copyFrom(from.rules);
        }
    }

    /** CLAUSES, each a KIND and the steps of its COND, those of its parts ahead of its own. */
    private static final class Law {
        static final int FACT_WIDE = 0, FACT_WAS = 1, FACT_LONG = 2, FACT_DAY = 3, FACT_WIDTH = 4, FACT_PLACE = 5;
        static final int FACTS = 6;
        // VALUES from here on are FACTS, those below are NUMBERS.
        static final int FIRST_FACT = 10000;
        static final int LESS = 0, EQUAL = 1, ABOVE = 2, NOT = 3, AND = 4, OR = 5;

        final int[] kinds = new int[MOST_CLAUSES];
        final int[] ends = new int[MOST_CLAUSES];
        final int[] steps = new int[MOST_STEPS];
        final int[] lefts = new int[MOST_STEPS];
        final int[] rights = new int[MOST_STEPS];
        int clauseCount;
        int stepCount;

        void clear() {
            clauseCount = 0;
            stepCount = 0;
        }

        void addStep(int step, int left, int right) {
            if (stepCount < MOST_STEPS) {
                steps[stepCount] = step;
                lefts[stepCount] = left;
                rights[stepCount] = right;
                stepCount++;
            }
        }

        /** A CLAUSE whose steps are those added since the one ahead. */
        void addClause(int kind) {
            if (clauseCount < MOST_CLAUSES) {
                kinds[clauseCount] = kind;
                ends[clauseCount] = stepCount;
                clauseCount++;
            }
        }

        boolean allows(int kind, int[] facts) {
            if (clauseCount == 0) {
                return kind == ON || isUnder(kind, LEFT);
            }
            for (int k = 0; k < clauseCount && k < MOST_CLAUSES; k++) {
                if (isUnder(kind, kinds[k]) && holds(k, facts)) {
                    return true;
                }
            }
            return false;
        }

        // Answers of parts lie as bits on a stack, the latest lowest: 2 for each "(" that is open and
        // some more, so a long has room. The first bit stands for a CLAUSE without COND.
        private boolean holds(int k, int[] facts) {
            long stack = 1;
            for (int i = k == 0 ? 0 : ends[k - 1]; i < ends[k] && i < MOST_STEPS; i++) {
                switch (steps[i]) {
                    case NOT:
                        stack ^= 1;
                        break;
                    case AND:
                        stack = stack >>> 1 & (stack | -2L);
                        break;
                    case OR:
                        stack = stack >>> 1 | stack & 1;
                        break;
                    default:
                        stack = stack << 1 | (compares(i, facts) ? 1 : 0);
                        break;
                }
            }
            return (stack & 1) != 0;
        }

        private boolean compares(int i, int[] facts) {
            int left = valueOf(lefts[i], facts);
            int right = valueOf(rights[i], facts);
            switch (steps[i]) {
                case LESS:
                    return left < right;
                case EQUAL:
                    return left == right;
                default:
                    return left > right;
            }
        }

        private static int valueOf(int value, int[] facts) {
            int fact = value - FIRST_FACT;
            return fact >= 0 && fact < FACTS && fact < facts.length ? facts[fact] : value;
        }

        void copyFrom(Law from) {
            clauseCount = from.clauseCount;
            stepCount = from.stepCount;
            System.arraycopy(from.kinds, 0, kinds, 0, MOST_CLAUSES);
            System.arraycopy(from.ends, 0, ends, 0, MOST_CLAUSES);
            System.arraycopy(from.steps, 0, steps, 0, MOST_STEPS);
            System.arraycopy(from.lefts, 0, lefts, 0, MOST_STEPS);
            System.arraycopy(from.rights, 0, rights, 0, MOST_STEPS);
        }
    }

    /**
     * THE TAPE and who reads it: first as TOKENS, then as a TEXT. A part that can't be read leaves
     * the TOKEN that can't stand there as the latest one, so its first byte is the FAULT.
     */
    private static final class LawReader {
        // TOKENS below END are VALUES, as Law has them.
        private static final int END = 20000, WRONG = 20001, IF = 20002, OR = 20003, AND = 20004, NOT = 20005;
        private static final int FIRST_KIND = 20010, LAST_KIND = 20015, FIRST_SIGN = 20100;
        private static final int NEXT_CLAUSE = FIRST_SIGN + ';', OPEN = FIRST_SIGN + '(', CLOSE = FIRST_SIGN + ')';
        private static final int LESS = FIRST_SIGN + '<', EQUAL = FIRST_SIGN + '=', ABOVE = FIRST_SIGN + '>';

        final Law made = new Law();
        final byte[] tape = new byte[MOST_BYTES];
        int size;
        private final int[] tokens = new int[MOST_BYTES];
        private final int[] places = new int[MOST_BYTES];
        private int tokenCount;
        private int at;
        private int token;

        int takeIn(long eight, int n) {
            for (int i = 0; i < n && size < MOST_BYTES; i++) {
                tape[size] = (byte) (eight >>> 8 * i);
                size++;
            }
            return size;
        }

        /** How many CLAUSES are made, or -100 less the FAULT; uses THE TAPE up. */
        int readText() {
            splitTape();
            made.clear();
            at = -1;
            advance();
            boolean right = true;
            for (int k = 0; k <= MOST_CLAUSES && right && token != END; k++) {
                right = readClause();
            }
            int fault = at < tokenCount && at < MOST_BYTES ? places[at] : size;
            size = 0;
            return right ? made.clauseCount : FAULTS - fault;
        }

        private void splitTape() {
            tokenCount = 0;
            for (int i = 0; i < size && i < MOST_BYTES; i++) {
                if (tape[i] != ' ' && !goesOn(i)) {
                    tokens[tokenCount] = tokenOf(i, endOfRun(i));
                    places[tokenCount] = i;
                    tokenCount++;
                }
            }
        }

        private int endOfRun(int start) {
            int stop = start + 1;
            while (stop < size && stop < MOST_BYTES && goesOn(stop)) {
                stop++;
            }
            return stop;
        }

        // Whether a byte is of the same NAME or NUMBER as the one ahead.
        private boolean goesOn(int i) {
            if (i < 1 || i >= MOST_BYTES) {
                return false;
            }
            return isLetter(tape[i]) ? isLetter(tape[i - 1]) : isDigit(tape[i]) && isDigit(tape[i - 1]);
        }

        private static boolean isLetter(int b) {
            return b >= 'a' && b <= 'z';
        }

        private static boolean isDigit(int b) {
            return b >= '0' && b <= '9';
        }

        private int tokenOf(int start, int stop) {
            if (isLetter(tape[start])) {
                return wordOf(start, stop);
            }
            if (isDigit(tape[start])) {
                return stop - start > MOST_DIGITS ? WRONG : numberOf(start, stop);
            }
            return FIRST_SIGN + (tape[start] & 255);
        }

        private int numberOf(int start, int stop) {
            int number = 0;
            for (int i = start; i < stop && i < MOST_BYTES; i++) {
                number = number * 10 + tape[i] - '0';
            }
            return number;
        }

        private int wordOf(int start, int stop) {
            return isWord("turn", start, stop) ? FIRST_KIND + TURN
                : isWord("on", start, stop) ? FIRST_KIND + ON
                : isWord("left", start, stop) ? FIRST_KIND + LEFT
                : isWord("sharp", start, stop) ? FIRST_KIND + SHARP
                : isWord("right", start, stop) ? FIRST_KIND + RIGHT
                : isWord("round", start, stop) ? FIRST_KIND + ROUND
                : isWord("wide", start, stop) ? Law.FIRST_FACT + Law.FACT_WIDE
                : isWord("was", start, stop) ? Law.FIRST_FACT + Law.FACT_WAS
                : isWord("long", start, stop) ? Law.FIRST_FACT + Law.FACT_LONG
                : isWord("day", start, stop) ? Law.FIRST_FACT + Law.FACT_DAY
                : isWord("width", start, stop) ? Law.FIRST_FACT + Law.FACT_WIDTH
                : isWord("place", start, stop) ? Law.FIRST_FACT + Law.FACT_PLACE
                : isWord("if", start, stop) ? IF
                : isWord("or", start, stop) ? OR
                : isWord("and", start, stop) ? AND
                : isWord("not", start, stop) ? NOT : WRONG;
        }

        private boolean isWord(String word, int start, int stop) {
            if (stop - start != word.length()) {
                return false;
            }
            for (int i = start; i < stop && i < MOST_BYTES; i++) {
                if (tape[i] != word.charAt(i - start)) {
                    return false;
                }
            }
            return true;
        }

        private void advance() {
            at++;
            token = at >= 0 && at < tokenCount && at < MOST_BYTES ? tokens[at] : END;
        }

        private boolean readClause() {
            int kind = token - FIRST_KIND;
            if (token < FIRST_KIND || token > LAST_KIND || made.clauseCount >= MOST_CLAUSES) {
                return false;
            }
            advance();
            if (token == IF) {
                advance();
                if (!readCond(0)) {
                    return false;
                }
            }
            if (token != NEXT_CLAUSE) {
                return false;
            }
            advance();
            made.addClause(kind);
            return true;
        }

        private boolean readCond(int open) {
            boolean right = readAll(open);
            for (int k = 0; k < MOST_BYTES && right && token == OR; k++) {
                advance();
                right = readAll(open);
                made.addStep(Law.OR, 0, 0);
            }
            return right;
        }

        private boolean readAll(int open) {
            boolean right = readOne(open);
            for (int k = 0; k < MOST_BYTES && right && token == AND; k++) {
                advance();
                right = readOne(open);
                made.addStep(Law.AND, 0, 0);
            }
            return right;
        }

        private boolean readOne(int open) {
            boolean isNot = false;
            for (int k = 0; k < MOST_BYTES && token == NOT; k++) {
                advance();
                isNot = !isNot;
            }
            boolean right = token == OPEN ? readInner(open) : readComparison();
            if (isNot) {
                made.addStep(Law.NOT, 0, 0);
            }
            return right;
        }

        private boolean readInner(int open) {
            if (open >= MOST_OPEN) {
                return false;
            }
            advance();
            if (!readCond(open + 1) || token != CLOSE) {
                return false;
            }
            advance();
            return true;
        }

        private boolean readComparison() {
            int left = token;
            if (left >= END) {
                return false;
            }
            advance();
            int sign = token;
            if (sign != LESS && sign != EQUAL && sign != ABOVE) {
                return false;
            }
            advance();
            int right = token;
            if (right >= END) {
                return false;
            }
            advance();
            made.addStep(sign == LESS ? Law.LESS : sign == EQUAL ? Law.EQUAL : Law.ABOVE, left, right);
            return true;
        }
    }

    /** How far it is, and what can be come to, in a town that was looked at. Sets are bits. */
    private static final class Ways {
        final int[] begins = new int[MOST_COURSES];
        final int[] ends = new int[MOST_COURSES];
        final int[] longs = new int[MOST_COURSES];
        // To which ways a TURN that may be gone leads, those of shut STREETS too: opened() asks for them.
        final long[] nexts = new long[MOST_COURSES];
        final long[] reached = new long[MOST_COURSES];
        final int[] left = new int[MOST_COURSES];
        final int[] greater = new int[MOST_CROSSINGS];
        final int[][] apart = new int[MOST_CROSSINGS][MOST_CROSSINGS];
        long courses;
        long shutWays;
        int count;
        int crossingCount;

        /** Where COURSES and those that a shut STREET would have begin and end. */
        void look(Town town) {
            courses = 0;
            shutWays = 0;
            count = Math.min(2 * town.streetCount, MOST_COURSES);
            crossingCount = Math.min(town.crossingCount, MOST_CROSSINGS);
            for (int u = 0; u < count; u++) {
                long bit = 1L << u;
                boolean isCourse = town.hasCourse(u);
                courses |= isCourse ? bit : 0;
                shutWays |= !isCourse && town.hasWay(u) ? bit : 0;
                begins[u] = town.beginOf(u);
                ends[u] = town.endOf(u);
                longs[u] = town.longOf(u);
            }
        }

        /** By a WIDTH, and by THE LAW or by bits that stand for it. */
        void prepare(Town town, int width, int bits) {
            look(town);
            for (int u = 0; u < count; u++) {
                long found = 0;
                for (int v = 0; v < count; v++) {
                    if (ends[u] == begins[v]) {
                        boolean is = bits == BY_LAW ? town.mayGo(u, v, width) : town.isOneOf(u, v, bits);
                        found |= is ? 1L << v : 0;
                    }
                }
                nexts[u] = found;
            }
        }

        int leftFrom(int course) {
            return course >= 0 && course < count ? left[course] : NO_WAY;
        }

        /** FAR of every COURSE to a CROSSING, in `left`. */
        void measureTo(int c) {
            long targets = 0;
            for (int u = 0; u < count; u++) {
                targets |= ends[u] == c ? 1L << u : 0;
            }
            measure(targets & courses);
        }

        // The nearest comes first, and what leads onto it next: no LONG is below 0.
        private void measure(long targets) {
            for (int u = 0; u < count; u++) {
                left[u] = isIn(targets, u) ? 0 : NO_WAY;
            }
            long open = courses;
            for (int round = 0; round < count; round++) {
                int v = nearest(open);
                if (v < 0) {
                    return;
                }
                open &= ~(1L << v);
                int through = left[v] + longs[v];
                for (int u = 0; u < count; u++) {
                    if (through < left[u] && isIn(open, u) && isIn(nexts[u], v)) {
                        left[u] = through;
                    }
                }
            }
        }

        private int nearest(long open) {
            int found = -1;
            int least = NO_WAY;
            for (int u = 0; u < count; u++) {
                if (left[u] < least && isIn(open, u)) {
                    least = left[u];
                    found = u;
                }
            }
            return found;
        }

        /** FIRST, towards what was measured; NONE if there is no way or it is 0. */
        int firstFrom(int course) {
            int all = leftFrom(course);
            if (all == NO_WAY || all == 0) {
                return NONE;
            }
            for (int v = 0; v < count; v++) {
                if (isIn(nexts[course] & courses, v) && left[v] + longs[v] == all) {
                    return v;
                }
            }
            return NONE;
        }

        int writeRows(int course, int[][] rows) {
            int at = course;
            int till = 0;
            for (int i = 0; i < MOST_ROWS && i < rows.length; i++) {
                at = firstFrom(at);
                if (at == NONE) {
                    return i;
                }
                till += longs[at];
                rows[i][ROW_COURSE] = at;
                rows[i][ROW_CROSSING] = ends[at];
                rows[i][ROW_LONG] = till;
            }
            return MOST_ROWS;
        }

        int loopOf(int course) {
            if (course < 0 || course >= count) {
                return NO_WAY;
            }
            measure(1L << course);
            int least = NO_WAY;
            for (int v = 0; v < count; v++) {
                if (isIn(nexts[course] & courses, v) && left[v] < NO_WAY) {
                    least = Math.min(least, left[v] + longs[v]);
                }
            }
            return least;
        }

        /** The COURSE and those of `there` to which TURNS lead from it, one behind the other. */
        private long coursesFrom(int course, long there) {
            long seen = 1L << course;
            long todo = seen;
            for (int round = 0; round < count && todo != 0; round++) {
                int u = Long.numberOfTrailingZeros(todo);
                long fresh = u < count ? nexts[u] & there & ~seen : 0;
                seen |= fresh;
                todo = todo & ~(1L << u) | fresh;
            }
            return seen;
        }

        private int endsOf(long set) {
            int found = 0;
            for (int u = 0; u < count; u++) {
                found |= isIn(set, u) ? 1 << ends[u] : 0;
            }
            return found;
        }

        int crossingsFrom(int course) {
            return endsOf(coursesFrom(course, courses));
        }

        int countPairs(long there) {
            int pairs = 0;
            for (int u = 0; u < count; u++) {
                if (isIn(there, u)) {
                    pairs += Integer.bitCount(endsOf(coursesFrom(u, there)));
                }
            }
            return pairs;
        }

        int crossingsNeverReached() {
            int come = 0;
            for (int u = 0; u < count; u++) {
                if (isIn(courses, u)) {
                    come |= crossingsFrom(u) & ~(1 << ends[u]);
                }
            }
            return (1 << crossingCount) - 1 & ~come;
        }

        // Each group is counted at its least COURSE.
        int countParts() {
            int parts = 0;
            for (int u = 0; u < count; u++) {
                if (isIn(courses, u)) {
                    reached[u] = coursesFrom(u, courses);
                    parts += isWithLesser(u) ? 0 : 1;
                }
            }
            return parts;
        }

        private boolean isWithLesser(int u) {
            for (int v = 0; v < u && v < count; v++) {
                if (isIn(reached[u], v) && isIn(reached[v], u)) {
                    return true;
                }
            }
            return false;
        }

        /** FREE from every CROSSING to every one, in `apart`. */
        void measureFreely() {
            for (int a = 0; a < MOST_CROSSINGS; a++) {
                Arrays.fill(apart[a], NO_WAY);
                apart[a][a] = 0;
            }
            for (int u = 0; u < count; u++) {
                if (isIn(courses, u)) {
                    int[] from = apart[begins[u]];
                    from[ends[u]] = Math.min(from[ends[u]], longs[u]);
                }
            }
            for (int by = 0; by < crossingCount; by++) {
                for (int a = 0; a < crossingCount; a++) {
                    goBy(apart[a], apart[a][by], apart[by]);
                }
            }
        }

        private void goBy(int[] from, int till, int[] on) {
            for (int b = 0; b < crossingCount && till < NO_WAY; b++) {
                from[b] = Math.min(from[b], till + on[b]);
            }
        }

        int worstDetour() {
            int most = NONE;
            for (int c = 0; c < crossingCount; c++) {
                measureTo(c);
                for (int u = 0; u < count; u++) {
                    if (left[u] < NO_WAY) {
                        most = Math.max(most, left[u] - apart[ends[u]][c]);
                    }
                }
            }
            return most;
        }

        int bestToOpen() {
            int most = countPairs(courses);
            int best = NONE;
            for (int s = 0; 2 * s < count; s++) {
                long fresh = shutWays & 3L << 2 * s;
                int pairs = fresh == 0 ? 0 : countPairs(courses | fresh);
                if (pairs > most) {
                    most = pairs;
                    best = s;
                }
            }
            return best;
        }

        /** What was prepared by a WALKER's WIDTH tells his FARS: `greater` is not below them. */
        void raiseGreater(int course) {
            for (int c = 0; c < crossingCount; c++) {
                measureTo(c);
                // He whose COURSE is no more is at its end still, though no TURN leads from it.
                boolean isThere = course >= 0 && course < count && ends[course] == c;
                greater[c] = Math.max(greater[c], isThere ? 0 : leftFrom(course));
            }
        }

        int meetingPlace() {
            int least = NO_WAY;
            int found = NONE;
            for (int c = 0; c < crossingCount; c++) {
                if (greater[c] < least) {
                    least = greater[c];
                    found = c;
                }
            }
            return found;
        }
    }

    /** SHEETS and SHELVES. */
    private static final class Host {
        final int[] sorts = {MISSING, MISSING, MISSING, MISSING};
        final int[] sizes = new int[SHEETS];
        final long[][] items = new long[SHEETS][MOST_ITEMS];
        final int[] holds = new int[SHELVES];
        // Of a TURN its COURSES; of a row its sort and how many items, for it stays when its SHEET
        // becomes another one, and no more of it can be asked.
        final int[] one = new int[SHELVES];
        final int[] two = new int[SHELVES];

        boolean hasSheet(int sheet) {
            return sheet >= 0 && sheet < SHEETS;
        }

        boolean hasShelf(int shelf) {
            return shelf >= 0 && shelf < SHELVES;
        }

        boolean hasItem(int sheet, int i) {
            return i >= 0 && i < sizes[sheet] && i < MOST_ITEMS;
        }

        /** Why a SHEET can't be taken for a sort; 0 if it can. */
        int refuseAs(int sheet, int sort) {
            if (sorts[sheet] == MISSING) {
                return NOTHING;
            }
            return sorts[sheet] == sort ? 0 : OTHER_SORT;
        }

        void lay(int sheet, int sort, int n) {
            sorts[sheet] = sort;
            sizes[sheet] = n;
            Arrays.fill(items[sheet], 0L);
        }

        int hold(int shelf, int what, int first, int second) {
            holds[shelf] = what;
            one[shelf] = first;
            two[shelf] = second;
            return 1;
        }

        int shelveRow(int shelf, int sheet) {
            int what = sorts[sheet] == MISSING ? ON_SHELF_NOTHING : ON_SHELF_ROW;
            return hold(shelf, what, sorts[sheet], sizes[sheet]);
        }
    }

    /** A TURN as a thing with ACTS, and the bodies that ran in the one that was asked. */
    private static class Thing {
        final int n;
        final int a;
        final int[] bodies = new int[MOST_BODIES];
        int bodyCount;

        Thing(int from, int to) {
            n = from;
            a = to;
        }

        final void begin(int body) {
            if (bodyCount < MOST_BODIES) {
                bodies[bodyCount] = body;
                bodyCount++;
            }
        }

        int turns(int x) {
            begin(10);
            return x + a;
        }

        int goes(int x) {
            begin(11);
            return turns(x) * 2;
        }

        // No TURN leads onto the COURSE from which it leads, so a is never n.
        int sees(int x) {
            begin(12);
            int by = a - n;
            return by == 0 ? PARTED : x / by;
        }

        int tells(int x) {
            begin(13);
            return goes(x) ^ n;
        }
    }

    private static final class On extends Thing {
        On(int from, int to) {
            super(from, to);
        }

        int turns(int x) {
            begin(20);
            return super.turns(x) * 3;
        }
    }

    private static class Left extends Thing {
        Left(int from, int to) {
            super(from, to);
        }

        int goes(int x) {
            begin(30);
            return super.goes(x) - a;
        }
    }

    private static final class Sharp extends Left {
        Sharp(int from, int to) {
            super(from, to);
        }

        int turns(int x) {
            begin(50);
            return super.turns(x) ^ n;
        }

        int tells(int x) {
            begin(51);
            return super.tells(x) + sees(n);
        }
    }

    private static class Right extends Thing {
        Right(int from, int to) {
            super(from, to);
        }

        int sees(int x) {
            begin(40);
            return super.sees(x + 1);
        }
    }

    private static final class Round extends Right {
        Round(int from, int to) {
            super(from, to);
        }

        int goes(int x) {
            begin(60);
            return 0 - super.goes(x);
        }

        int sees(int x) {
            begin(61);
            return super.sees(x) + turns(n);
        }
    }
}
