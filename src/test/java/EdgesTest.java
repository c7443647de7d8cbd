import java.util.function.IntUnaryOperator;

/** Of each number that a call takes: the last that is taken and the first that is not, on both sides. */
public final class EdgesTest {
    private static final int BAD = LeftTown.BAD;

    public static void main(String[] args) {
        town();
        turns();
        walkers();
        ways();
        waysByWidth();
        rows();
        sheets();
        shelves();
        others();
        Check.end();
    }

    /** From low to high a number is taken, below and above it is not: then the refusal is told. */
    private static void edges(String what, int low, int high, int refusal, IntUnaryOperator call) {
        for (int v = low; v <= high; v++) {
            Check.isTrue(what + ": " + v + " is taken", call.applyAsInt(v) != refusal);
        }
        for (int v : new int[] {low - 1, high + 1, low - 256, high + 256, Integer.MIN_VALUE, Integer.MAX_VALUE}) {
            Check.due(what + ": " + v, call.applyAsInt(v), refusal);
        }
    }

    /** CROSSINGS 0 to 4, STREETS 0 to 3 (the last one way and 9 WIDE), WALKERS 0 to 2, some ROWS. */
    private static LeftTown some() {
        LeftTown t = Check.square();
        t.crossing(9, 9);
        t.walker(0, 0);
        t.walker(2, 3);
        t.walker(6, 9);
        t.prove(0, 0);
        return t;
    }

    private static void town() {
        edges("crossing x", 0, 9, BAD, v -> new LeftTown().crossing(v, 4));
        edges("crossing y", 0, 9, BAD, v -> new LeftTown().crossing(4, v));
        edges("crossingOf c", 0, 4, BAD, v -> some().crossingOf(v, 0));
        edges("crossingOf what", 0, 3, BAD, v -> some().crossingOf(0, v));
        edges("street a", 0, 3, BAD, v -> some().street(v, 4, 1, false));
        edges("street b", 1, 4, BAD, v -> some().street(0, v, 1, false));
        edges("street wide", 1, 9, BAD, v -> some().street(0, 4, v, true));
        edges("streetOf s", 0, 3, BAD, v -> some().streetOf(v, 2));
        edges("streetOf what", 0, 5, BAD, v -> some().streetOf(0, v));
        edges("shut s", 0, 3, BAD, v -> some().shut(v, true));
        edges("open s", 0, 3, BAD, v -> some().shut(v, false));
        edges("widen s", 0, 3, BAD, v -> some().widen(v, 1));
        edges("widen v", 1, 9, BAD, v -> some().widen(0, v));
        edges("day", 0, 6, BAD, v -> some().day(v));
        for (int v = 0; v <= 9; v++) {
            LeftTown t = some();
            t.widen(0, v);
            t.day(v);
            Check.due("WIDE by widen(0, " + v + ")", t.streetOf(0, 2), v == 0 ? 3 : v);
            Check.due("DAY by day(" + v + ")", t.day(0), v > 6 ? 0 : v);
        }
    }

    private static void turns() {
        edges("feed n", 1, 8, BAD, v -> some().feed(0, v));
        edges("turn from", 0, 39, BAD, v -> some().turn(v, 2));
        edges("turn to", 0, 39, BAD, v -> some().turn(0, v));
        edges("may from", 0, 39, BAD, v -> some().may(v, 2, 0));
        edges("may to", 0, 39, BAD, v -> some().may(0, v, 0));
        edges("may width", 0, 9, BAD, v -> some().may(0, 2, v));
        for (int v = 0; v <= 9; v++) {
            Check.due("may(0, 2, " + v + ")", some().may(0, 2, v), v <= 3 ? 1 : 0);
        }
        // The other way of a one-way STREET is no COURSE, nor is one of a STREET to come.
        Check.due("from no COURSE", some().turn(7, 5), LeftTown.NONE);
        Check.due("to no COURSE", some().turn(1, 7), LeftTown.NONE);
        Check.due("to a STREET to come", some().turn(1, 8), LeftTown.NONE);
        LeftTown t = some();
        t.street(3, 4, 1, true);
        Check.due("that came", t.turn(4, 8), 4);
        Check.due("its other way did not", t.turn(4, 9), LeftTown.NONE);
    }

    private static void walkers() {
        edges("walker course", 0, 6, BAD, v -> some().walker(v, 0));
        edges("walker width", 0, 9, BAD, v -> some().walker(6, v));
        edges("walker width by WIDE", 0, 3, BAD, v -> some().walker(0, v));
        edges("walkerOf w", 0, 2, BAD, v -> some().walkerOf(v, 0));
        edges("walkerOf what", 0, 2, BAD, v -> some().walkerOf(0, v));
        edges("go w", 0, 2, BAD, v -> some().go(v, 2));
        edges("go to", 0, 39, BAD, v -> some().go(0, v));
        edges("put w", 0, 2, BAD, v -> some().put(v, 6));
        edges("put course", 0, 6, BAD, v -> some().put(0, v));
        for (int course = 0; course <= 7; course++) {
            boolean isWide = course < 4 || course == 6;
            Check.due("he of WIDTH 3 put on " + course, some().put(1, course), isWide ? 1 : BAD);
            Check.due("he of WIDTH 9 put on " + course, some().put(2, course), course == 6 ? 1 : BAD);
            Check.due("one of WIDTH 3 on " + course, some().walker(course, 3), isWide ? 3 : BAD);
            Check.due("one of WIDTH 4 on " + course, some().walker(course, 4), course == 6 ? 3 : BAD);
        }
    }

    private static void ways() {
        edges("far course", 0, 6, BAD, v -> some().far(v, 0, 0));
        edges("far c", 0, 4, BAD, v -> some().far(0, v, 0));
        edges("first course", 0, 6, BAD, v -> some().first(v, 0, 0));
        edges("first c", 0, 4, BAD, v -> some().first(0, v, 0));
        edges("free a", 0, 4, BAD, v -> some().free(v, 0));
        edges("free b", 0, 4, BAD, v -> some().free(0, v));
        edges("reach course", 0, 6, BAD, v -> some().reach(v, 0));
        edges("loop course", 0, 6, BAD, v -> some().loop(v, 0));
        edges("meet v", 1, 2, BAD, v -> some().meet(v, 0, 0));
        edges("meet w", 1, 2, BAD, v -> some().meet(0, v, 0));
        edges("meet what", 0, 1, BAD, v -> some().meet(0, 1, v));
        for (int w = 0; w <= 2; w++) {
            Check.due("one and the same", some().meet(w, w, 0), BAD);
            Check.due("one and the same", some().meet(w, w, 1), BAD);
        }
        edges("other bits", 0, 15, BAD, v -> some().other(v));
        edges("prove course", 0, 6, BAD, v -> some().prove(v, 0));
        edges("prove c", 0, 4, BAD, v -> some().prove(0, v));
        edges("judge course", 0, 6, BAD, v -> some().judge(v));
    }

    private static void waysByWidth() {
        edges("far width", 0, 9, BAD, v -> some().far(0, 0, v));
        edges("first width", 0, 9, BAD, v -> some().first(0, 0, v));
        edges("reach width", 0, 9, BAD, v -> some().reach(0, v));
        edges("pairs width", 0, 9, BAD, v -> some().pairs(v));
        edges("never width", 0, 9, BAD, v -> some().never(v));
        edges("parts width", 0, 9, BAD, v -> some().parts(v));
        edges("loop width", 0, 9, BAD, v -> some().loop(0, v));
        edges("worst width", 0, 9, BAD, v -> some().worst(v));
        edges("opened width", 0, 9, BAD, v -> some().opened(v));
        for (int width = 0; width <= 9; width++) {
            boolean round = width <= 2;
            Check.due("far by " + width, some().far(0, 0, width), round ? 12 : LeftTown.NONE);
            Check.due("first by " + width, some().first(0, 2, width), width <= 3 ? 2 : LeftTown.NONE);
            Check.due("reach by " + width, some().reach(0, width), round ? 15 : width == 3 ? 6 : 2);
            Check.due("loop by " + width, some().loop(6, width), round ? 16 : LeftTown.NONE);
            Check.due("pairs by " + width, some().pairs(width), round ? 19 : width == 3 ? 10 : 7);
            Check.due("never by " + width, some().never(width), round ? 16 : width == 3 ? 25 : 31);
            Check.due("parts by " + width, some().parts(width), round ? 4 : 7);
            Check.due("worst by " + width, some().worst(width), round ? 8 : 0);
        }
    }

    private static void rows() {
        edges("row i", 0, 2, -9, v -> some().row(v, 0));
        edges("row what", 0, 2, -9, v -> some().row(0, v));
        edges("alterRow i", 0, 2, -9, v -> some().alterRow(v, 0, 5));
        edges("alterRow what", 0, 2, -9, v -> some().alterRow(0, v, 5));
        for (int v : new int[] {-9, Integer.MIN_VALUE, Integer.MAX_VALUE}) {
            LeftTown t = some();
            t.alterRow(1, 2, v);
            Check.due("any number may stand in a ROW", t.row(1, 2), v);
            Check.due("and is told as what it was", t.alterRow(1, 2, 0), v);
        }
    }

    private static LeftTown withSheets() {
        LeftTown t = some();
        for (int i = 0; i < 4; i++) {
            t.sheet(i, 0, 3);
        }
        return t;
    }

    private static void sheets() {
        edges("sheet", 0, 3, BAD, v -> withSheets().sheet(v, 0, 1));
        edges("sheet sort", -1, 4, BAD, v -> withSheets().sheet(0, v, 1));
        for (int n = 0; n <= 40; n++) {
            Check.due("sheet n " + n, withSheets().sheet(0, 2, n), 1);
        }
        for (int n : new int[] {41, 42, 256, Integer.MAX_VALUE}) {
            Check.due("sheet n " + n, withSheets().sheet(0, 2, n), BAD);
            Check.due("missing, n " + n, withSheets().sheet(0, -1, n), 1);
        }
        for (int n : new int[] {-1, -2, -256, Integer.MIN_VALUE}) {
            Check.due("sheet n " + n, withSheets().sheet(0, 2, n), -14);
            Check.due("missing, n " + n, withSheets().sheet(0, -1, n), 1);
        }
        edges("write sheet", 0, 3, BAD, v -> withSheets().write(v, 0, 1));
        edges("write i", 0, 2, -12, v -> withSheets().write(0, v, 1));
        edges("item sheet", 0, 3, BAD, v -> withSheets().item(v, 0, 0));
        edges("item sort", 0, 4, BAD, v -> withSheets().item(0, v, 0));
        edges("item i", 0, 2, -12, v -> withSheets().item(0, 0, v));
        edges("wides sheet", 0, 3, BAD, v -> withSheets().wides(v, 0, 1));
        edges("wides n", 0, 20, BAD, v -> withSheets().wides(0, 0, v));
        edges("wides i", 0, 2, -12, v -> withSheets().wides(0, v, 1));
        Check.due("as many as there are", withSheets().wides(0, 0, 3), 0);
        Check.due("one more", withSheets().wides(0, 0, 4), -12);
        narrowing();
        bytesThatAreWide();
    }

    private static void narrowing() {
        LeftTown t = new LeftTown();
        int[] written = {-129, -128, 127, 128, -32769, -32768, 32767, 32768, Integer.MIN_VALUE, Integer.MAX_VALUE};
        int[][] due = {
            {127, -128, 127, -128, -1, 0, -1, 0, 0, -1},
            {-129, -128, 127, 128, 32767, -32768, 32767, -32768, 0, -1},
            written,
            written,
            {1, 1, 1, 1, 1, 1, 1, 1, 1, 1}};
        for (int sort = 0; sort <= 4; sort++) {
            t.sheet(1, sort, 1);
            for (int k = 0; k < written.length; k++) {
                t.write(1, 0, written[k]);
                Check.due(written[k] + " as sort " + sort, t.item(1, sort, 0), due[sort][k]);
            }
        }
        for (int v : new int[] {BAD, -11, -12, -13, -14}) {
            t.sheet(1, 0, 1);
            t.write(1, 0, v);
            Check.due("an item as low as a refusal", t.item(1, 0, 0), v);
        }
    }

    // widen() takes 1 to 9, so of bytes no other comes.
    private static void bytesThatAreWide() {
        for (int v : new int[] {-128, -1, 0, 1, 9, 10, 127, 256, 257, 265, 266}) {
            LeftTown t = withSheets();
            t.write(0, 1, v);
            int is = (byte) v;
            boolean comes = is >= 1 && is <= 9;
            Check.due("wides of " + v, t.wides(0, 1, 1), comes ? 1 : 0);
            Check.due("WIDE by " + v, t.streetOf(0, 2), comes ? is : 3);
        }
    }

    private static LeftTown withShelves() {
        LeftTown t = withSheets();
        for (int i = 0; i < 4; i++) {
            t.shelf(i, 0, 0, 2);
        }
        return t;
    }

    private static void shelves() {
        for (int what = 0; what <= 2; what++) {
            int kind = what;
            edges("shelf, what " + what, 0, 3, BAD, v -> withShelves().shelf(v, kind, 0, 2));
        }
        edges("shelf what", 0, 2, BAD, v -> withShelves().shelf(0, v, 0, 2));
        edges("shelf from COURSE", 0, 39, BAD, v -> withShelves().shelf(0, 0, v, 2));
        edges("shelf to COURSE", 0, 39, BAD, v -> withShelves().shelf(0, 0, 0, v));
        edges("shelf from SHEET", 0, 3, BAD, v -> withShelves().shelf(0, 1, v, 2));
        for (int any : new int[] {-1, 4, 40, Integer.MIN_VALUE, Integer.MAX_VALUE}) {
            Check.due("a SHEET's row needs no to", withShelves().shelf(0, 1, 3, any), 1);
            Check.due("nothing needs no from", withShelves().shelf(0, 2, any, any), 1);
        }
        edges("taken shelf", 0, 3, BAD, v -> withShelves().taken(v, 0));
        edges("taken as KIND", 0, 5, BAD, v -> withShelves().taken(0, v));
        edges("taken as sort", 10, 14, BAD, v -> withShelves().taken(0, v));
        for (int as = 6; as <= 9; as++) {
            Check.due("taken as " + as, withShelves().taken(0, as), BAD);
        }
    }

    private static int actThenTrace(int shelf, int act) {
        LeftTown t = withShelves();
        t.act(0, 0, 1);
        return t.act(shelf, act, 5) == 0 ? t.many(7) : -1;
    }

    private static void others() {
        edges("act shelf", 0, 3, 0, v -> actThenTrace(v, 0));
        edges("act act", 0, 3, 0, v -> actThenTrace(0, v));
        edges("many what", 0, 7, BAD, v -> some().many(v));
        edges("trace i", 0, 2, LeftTown.NONE, v -> {
            LeftTown t = withShelves();
            t.act(0, 1, 5);
            return t.trace(v);
        });
    }
}
