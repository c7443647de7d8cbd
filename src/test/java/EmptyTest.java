/** Every call where there is nothing: a new object, CROSSINGS without STREETS, STREETS that are all shut. */
public final class EmptyTest {
    private static final int BAD = LeftTown.BAD, NONE = LeftTown.NONE;

    public static void main(String[] args) {
        newTown();
        newWays();
        newHost();
        crossingsAlone();
        allShut();
        nothingIsKept();
        Check.end();
    }

    private static void newTown() {
        LeftTown t = new LeftTown();
        for (int what = 0; what <= 7; what++) {
            Check.due("many(" + what + ")", t.many(what), 0);
        }
        for (int what = 0; what <= 5; what++) {
            Check.due("crossingOf(0, " + what + ")", t.crossingOf(0, what), BAD);
            Check.due("streetOf(0, " + what + ")", t.streetOf(0, what), BAD);
            Check.due("walkerOf(0, " + what + ")", t.walkerOf(0, what), BAD);
        }
        Check.due("street(0, 1, 1, true)", t.street(0, 1, 1, true), BAD);
        Check.due("shut(0, true)", t.shut(0, true), BAD);
        Check.due("shut(0, false)", t.shut(0, false), BAD);
        Check.due("widen(0, 1)", t.widen(0, 1), BAD);
        Check.due("law() of no bytes", t.law(), 0);
        Check.due("turn(0, 1)", t.turn(0, 1), NONE);
        Check.due("turn(0, 0)", t.turn(0, 0), NONE);
        Check.due("turn(39, 38)", t.turn(39, 38), NONE);
        Check.due("may(0, 1, 0)", t.may(0, 1, 0), NONE);
        Check.due("walker(0, 0)", t.walker(0, 0), BAD);
        Check.due("go(0, 0)", t.go(0, 0), BAD);
        Check.due("put(0, 0)", t.put(0, 0), BAD);
        Check.due("again()", t.again(), NONE);
        Check.due("the day at first", t.day(0), 0);
    }

    private static void newWays() {
        LeftTown t = new LeftTown();
        Check.due("far(0, 0, 0)", t.far(0, 0, 0), BAD);
        Check.due("first(0, 0, 0)", t.first(0, 0, 0), BAD);
        Check.due("free(0, 0)", t.free(0, 0), BAD);
        Check.due("reach(0, 0)", t.reach(0, 0), BAD);
        Check.due("loop(0, 0)", t.loop(0, 0), BAD);
        Check.due("meet(0, 1, 0)", t.meet(0, 1, 0), BAD);
        Check.due("prove(0, 0)", t.prove(0, 0), BAD);
        Check.due("judge(0)", t.judge(0), BAD);
        Check.due("row(0, 0)", t.row(0, 0), -9);
        Check.due("alterRow(0, 0, 0)", t.alterRow(0, 0, 0), -9);
        for (int width = 0; width <= 9; width++) {
            noCourses(t, width, 0);
        }
    }

    private static void noCourses(LeftTown t, int width, int never) {
        Check.due("no COURSES: pairs", t.pairs(width), 0);
        Check.due("no COURSES: never", t.never(width), never);
        Check.due("no COURSES: parts", t.parts(width), 0);
        Check.due("no COURSES: worst", t.worst(width), NONE);
        Check.due("no COURSES: other", t.other(width), 0);
    }

    private static void newHost() {
        LeftTown t = new LeftTown();
        for (int i = 0; i < 4; i++) {
            Check.due("write(" + i + ", 0, 0)", t.write(i, 0, 0), -11);
            Check.due("wides(" + i + ", 0, 0)", t.wides(i, 0, 0), -11);
            for (int sort = 0; sort <= 4; sort++) {
                Check.due("item(" + i + ", " + sort + ", 0)", t.item(i, sort, 0), -11);
                Check.due("taken(" + i + ", 1" + sort + ")", t.taken(i, 10 + sort), -11);
            }
            for (int kind = 0; kind <= 5; kind++) {
                Check.due("taken(" + i + ", " + kind + ")", t.taken(i, kind), -11);
            }
            for (int act = 0; act <= 3; act++) {
                Check.due("act(" + i + ", " + act + ", 7)", t.act(i, act, 7), 0);
                Check.due("no TRACE", t.many(7), 0);
                Check.due("trace(0)", t.trace(0), NONE);
            }
            Check.due("no TURN for a SHELF", t.shelf(i, 0, 0, 1), NONE);
            Check.due("a missing SHEET's row", t.shelf(i, 1, i, 0), 1);
            Check.due("is nothing", t.taken(i, 10), -11);
            Check.due("nothing", t.shelf(i, 2, 0, 0), 1);
        }
    }

    private static void crossingsAlone() {
        LeftTown t = new LeftTown();
        t.crossing(5, 5);
        Check.due("one CROSSING, to itself", t.free(0, 0), 0);
        Check.due("a STREET needs two", t.street(0, 0, 1, false), BAD);
        Check.due("a STREET needs two", t.street(0, 1, 1, false), BAD);
        Check.due("COURSES that begin there", t.crossingOf(0, 2), 0);
        Check.due("COURSES that end there", t.crossingOf(0, 3), 0);
        noCourses(t, 0, 1);
        Check.due("none is shut", t.opened(0), NONE);
        t.crossing(6, 5);
        Check.due("from one to the other", t.free(0, 1), NONE);
        Check.due("and back", t.free(1, 0), NONE);
        noCourses(t, 9, 3);
    }

    private static void allShut() {
        LeftTown t = Check.square();
        for (int s = 0; s < 4; s++) {
            t.shut(s, true);
        }
        noCourses(t, 0, 15);
        Check.due("many(1)", t.many(1), 4);
        Check.due("many(2)", t.many(2), 0);
        Check.due("the first opens as much as any that is no one-way", t.opened(0), 0);
        Check.due("far", t.far(0, 1, 0), BAD);
        Check.due("reach", t.reach(0, 0), BAD);
        Check.due("walker", t.walker(0, 0), BAD);
        Check.due("turn", t.turn(0, 2), NONE);
        Check.due("free", t.free(0, 1), NONE);
        Check.due("free to itself", t.free(1, 1), 0);
    }

    private static void nothingIsKept() {
        LeftTown t = new LeftTown();
        Check.due("again() ahead of keep()", t.again(), NONE);
        Check.due("an empty town is kept", t.keep(), 1);
        t.crossing(0, 0);
        t.crossing(1, 0);
        t.street(0, 1, 1, false);
        t.walker(0, 0);
        t.day(3);
        Check.law(t, "on;");
        Check.due("and comes again", t.again(), 1);
        for (int what = 0; what <= 7; what++) {
            Check.due("again: many(" + what + ")", t.many(what), 0);
        }
        Check.due("again: the day", t.day(0), 0);
        Check.due("again: the first CROSSING", t.crossing(0, 0), 0);
    }
}
