/** Promises 42 and 43: keep and again. */
public final class KeptTest {
    public static void main(String[] args) {
        whatIsKept();
        whatIsNotKept();
        latestStays();
        Check.end();
    }

    private static void whatIsKept() {
        LeftTown t = Check.square();
        Check.due("nothing is kept", t.again(), LeftTown.NONE);
        t.walker(0, 3);
        t.go(0, 2);
        t.day(5);
        t.shut(0, true);
        Check.law(t, "left if day = 5 and wide < 4; on;");
        Check.due("keep", t.keep(), 1);
        t.crossing(9, 9);
        t.street(0, 4, 1, false);
        t.widen(1, 9);
        t.shut(0, false);
        t.shut(1, true);
        t.walker(0, 0);
        t.put(0, 0);
        t.day(1);
        Check.law(t, "turn;");
        Check.due("again", t.again(), 1);
        int[] many = {4, 4, 5, 1, 2};
        for (int what = 0; what < 5; what++) {
            Check.due("many(" + what + ")", t.many(what), many[what]);
        }
        Check.due("wide", t.streetOf(1, 2), 3);
        Check.due("shut", t.streetOf(0, 5), 1);
        Check.due("open", t.streetOf(1, 5), 0);
        Check.due("walker", t.walkerOf(0, 0), 2);
        Check.due("miles", t.walkerOf(0, 2), 4);
        Check.due("the law", t.may(2, 4, 0), 1);
        Check.due("round", t.may(2, 3, 0), 0);
        Check.due("a place is free again", t.crossing(9, 9), 4);
        Check.due("day", t.day(1), 5);
        Check.due("the law of another day", t.may(2, 4, 0), 0);
    }

    private static void whatIsNotKept() {
        LeftTown t = Check.square();
        t.keep();
        Check.feed(t, "on;");
        t.prove(0, 3);
        t.sheet(1, 2, 5);
        t.write(1, 4, 77);
        t.shelf(0, 0, 0, 2);
        t.shelf(1, 1, 1, 0);
        t.street(0, 2, 4, false);
        t.shelf(2, 0, 1, 8);
        t.act(0, 0, 1);
        t.again();
        Check.due("THE TAPE", t.many(6), 3);
        Check.due("ROWS", t.many(5), 2);
        Check.due("SHEETS", t.item(1, 2, 4), 77);
        Check.due("SHELVES", t.taken(0, 2), 2);
        Check.due("a row on one", t.taken(1, 12), 5);
        Check.due("a TURN that is no more", t.taken(2, 0), -11);
        Check.due("THE TRACE", t.trace(0), 10);
        t.street(0, 3, 4, false);
        Check.due("another street with its number", t.taken(2, 0), 48);
    }

    private static void latestStays() {
        LeftTown t = new LeftTown();
        t.crossing(0, 0);
        t.keep();
        t.crossing(1, 0);
        t.keep();
        t.crossing(2, 0);
        t.again();
        Check.due("the latest", t.many(0), 2);
        t.crossing(3, 0);
        t.crossing(4, 0);
        Check.due("it stays", t.again(), 1);
        Check.due("the latest again", t.many(0), 2);
        Check.due("its place", t.crossingOf(1, 0), 1);
        t.keep();
        t.street(0, 1, 2, false);
        t.widen(0, 7);
        t.keep();
        t.widen(0, 8);
        t.again();
        Check.due("what is kept is not what is there", t.streetOf(0, 2), 7);
        t.widen(0, 9);
        t.again();
        Check.due("nor the other way round", t.streetOf(0, 2), 7);
    }
}
