/** Promises 1 to 8 and 41: a new object, the town, how many. */
public final class TownTest {
    public static void main(String[] args) {
        newObject();
        crossings();
        crossingsOf();
        streets();
        streetsOf();
        shutting();
        widening();
        days();
        many();
        Check.end();
    }

    private static void newObject() {
        LeftTown t = new LeftTown();
        for (int what = 0; what <= 7; what++) {
            Check.due("new: many(" + what + ")", t.many(what), 0);
        }
        Check.due("new: again()", t.again(), LeftTown.NONE);
        Check.due("new: crossingOf(0, 0)", t.crossingOf(0, 0), LeftTown.BAD);
        Check.due("new: streetOf(0, 0)", t.streetOf(0, 0), LeftTown.BAD);
        Check.due("new: walkerOf(0, 0)", t.walkerOf(0, 0), LeftTown.BAD);
        Check.due("new: row(0, 0)", t.row(0, 0), -9);
        Check.due("new: trace(0)", t.trace(0), LeftTown.NONE);
        Check.due("new: write(0, 0, 0)", t.write(0, 0, 0), -11);
        Check.due("new: taken(0, 0)", t.taken(0, 0), -11);
        Check.due("new: worst(0)", t.worst(0), LeftTown.NONE);
        Check.due("new: pairs(0)", t.pairs(0), 0);
        Check.due("new: parts(0)", t.parts(0), 0);
        Check.due("new: never(0)", t.never(0), 0);
        Check.due("new: day(3)", t.day(3), 0);
    }

    private static void crossings() {
        LeftTown t = new LeftTown();
        Check.due("crossing(0, 0)", t.crossing(0, 0), 0);
        Check.due("crossing(9, 9)", t.crossing(9, 9), 1);
        Check.due("crossing(9, 0)", t.crossing(9, 0), 2);
        Check.due("crossing(0, 9)", t.crossing(0, 9), 3);
        Check.due("crossing(9, 9) twice", t.crossing(9, 9), LeftTown.STATE);
        int[][] wrong = {{-1, 0}, {10, 0}, {0, -1}, {0, 10}, {Integer.MIN_VALUE, 0}, {0, Integer.MAX_VALUE}};
        for (int[] w : wrong) {
            Check.due("crossing(" + w[0] + ", " + w[1] + ")", t.crossing(w[0], w[1]), LeftTown.BAD);
        }
        for (int i = 4; i < 12; i++) {
            Check.due("crossing " + i, t.crossing(i - 3, 5), i);
        }
        Check.due("the thirteenth", t.crossing(8, 8), LeftTown.FULL);
        Check.due("full comes ahead of the place", t.crossing(9, 9), LeftTown.FULL);
        Check.due("bad comes ahead of full", t.crossing(10, 9), LeftTown.BAD);
        Check.due("many(0)", t.many(0), 12);
    }

    private static void crossingsOf() {
        LeftTown t = Check.square();
        Check.due("crossingOf(1, 0)", t.crossingOf(1, 0), 4);
        Check.due("crossingOf(3, 1)", t.crossingOf(3, 1), 4);
        Check.due("crossingOf(3, 0)", t.crossingOf(3, 0), 0);
        Check.due("crossingOf(3, 2)", t.crossingOf(3, 2), 2);
        Check.due("crossingOf(3, 3)", t.crossingOf(3, 3), 1);
        Check.due("crossingOf(0, 2)", t.crossingOf(0, 2), 1);
        Check.due("crossingOf(0, 3)", t.crossingOf(0, 3), 2);
        t.shut(0, true);
        Check.due("crossingOf(0, 2), shut", t.crossingOf(0, 2), 0);
        Check.due("crossingOf(0, 3), shut", t.crossingOf(0, 3), 1);
        Check.due("crossingOf(0, 4)", t.crossingOf(0, 4), LeftTown.BAD);
        Check.due("crossingOf(0, -1)", t.crossingOf(0, -1), LeftTown.BAD);
        Check.due("crossingOf(4, 0)", t.crossingOf(4, 0), LeftTown.BAD);
        Check.due("crossingOf(-1, 0)", t.crossingOf(-1, 0), LeftTown.BAD);
    }

    private static void streets() {
        LeftTown t = new LeftTown();
        Check.due("no crossings", t.street(0, 1, 1, false), LeftTown.BAD);
        t.crossing(1, 1);
        t.crossing(3, 2);
        Check.due("street(0, 0)", t.street(0, 0, 1, false), LeftTown.BAD);
        Check.due("street(0, 2)", t.street(0, 2, 1, false), LeftTown.BAD);
        Check.due("street(-1, 1)", t.street(-1, 1, 1, false), LeftTown.BAD);
        Check.due("wide 0", t.street(0, 1, 0, false), LeftTown.BAD);
        Check.due("wide 10", t.street(0, 1, 10, false), LeftTown.BAD);
        for (int i = 0; i < 20; i++) {
            Check.due("street " + i, t.street(i & 1, 1 - (i & 1), 1 + i % 9, i % 3 == 0), i);
        }
        Check.due("the twenty-first", t.street(0, 1, 1, false), LeftTown.FULL);
        Check.due("bad comes ahead of full", t.street(0, 1, 0, false), LeftTown.BAD);
        Check.due("many(1)", t.many(1), 20);
        Check.due("many(2)", t.many(2), 33);
    }

    private static void streetsOf() {
        LeftTown t = new LeftTown();
        t.crossing(1, 7);
        t.crossing(3, 2);
        t.street(1, 0, 8, true);
        t.street(0, 1, 2, false);
        int[] first = {1, 0, 8, 1, 7, 0};
        int[] second = {0, 1, 2, 0, 7, 0};
        for (int what = 0; what < 6; what++) {
            Check.due("streetOf(0, " + what + ")", t.streetOf(0, what), first[what]);
            Check.due("streetOf(1, " + what + ")", t.streetOf(1, what), second[what]);
        }
        t.shut(1, true);
        Check.due("streetOf(1, 5), shut", t.streetOf(1, 5), 1);
        Check.due("streetOf(1, 4), shut", t.streetOf(1, 4), 7);
        for (int what : new int[] {-1, 6, 7, 8, Integer.MAX_VALUE}) {
            Check.due("streetOf(0, " + what + ")", t.streetOf(0, what), LeftTown.BAD);
        }
        Check.due("streetOf(2, 0)", t.streetOf(2, 0), LeftTown.BAD);
        Check.due("streetOf(-1, 0)", t.streetOf(-1, 0), LeftTown.BAD);
    }

    private static void shutting() {
        LeftTown t = Check.square();
        Check.due("open is not new", t.shut(1, false), 0);
        Check.due("shut is new", t.shut(1, true), 1);
        Check.due("shut is not new", t.shut(1, true), 0);
        Check.due("two courses less", t.many(2), 5);
        Check.due("a one-way street", t.shut(3, true), 1);
        Check.due("one course less", t.many(2), 4);
        Check.due("open is new", t.shut(1, false), 1);
        Check.due("two courses more", t.many(2), 6);
        Check.due("shut(4)", t.shut(4, true), LeftTown.BAD);
        Check.due("shut(-1)", t.shut(-1, true), LeftTown.BAD);
    }

    private static void widening() {
        LeftTown t = Check.square();
        Check.due("widen(2, 9)", t.widen(2, 9), 2);
        Check.due("widen(2, 1)", t.widen(2, 1), 9);
        Check.due("streetOf(2, 2)", t.streetOf(2, 2), 1);
        t.shut(2, true);
        Check.due("a shut street", t.widen(2, 4), 1);
        Check.due("widen(2, 0)", t.widen(2, 0), LeftTown.BAD);
        Check.due("widen(2, 10)", t.widen(2, 10), LeftTown.BAD);
        Check.due("widen(4, 1)", t.widen(4, 1), LeftTown.BAD);
        Check.due("widen(-1, 1)", t.widen(-1, 1), LeftTown.BAD);
        Check.due("nothing changed", t.streetOf(2, 2), 4);
    }

    private static void days() {
        LeftTown t = new LeftTown();
        Check.due("day(6)", t.day(6), 0);
        Check.due("day(7)", t.day(7), LeftTown.BAD);
        Check.due("day(-1)", t.day(-1), LeftTown.BAD);
        Check.due("day(0)", t.day(0), 6);
        Check.due("day(0) again", t.day(0), 0);
    }

    private static void many() {
        LeftTown t = Check.square();
        t.walker(0, 0);
        Check.law(t, "on; left;");
        Check.feed(t, "abc");
        t.prove(0, 0);
        t.shelf(0, 0, 0, 2);
        t.act(0, 1, 5);
        int[] due = {4, 4, 7, 1, 2, 3, 3, 3};
        for (int what = 0; what < 8; what++) {
            Check.due("many(" + what + ")", t.many(what), due[what]);
        }
        Check.due("many(8)", t.many(8), LeftTown.BAD);
        Check.due("many(-1)", t.many(-1), LeftTown.BAD);
    }
}
