/** Promises 17 to 28: ways. */
public final class WaysTest {
    public static void main(String[] args) {
        farAndFirst();
        firstIsTheLeast();
        freely();
        reachAndPairs();
        never();
        parts();
        loops();
        worst();
        opened();
        meeting();
        meetingWhereAStreetWasShut();
        others();
        wrongWidths();
        theFirstOfAll();
        firstsOnTheWay();
        freeIsOnFoot();
        meetingTies();
        partsBothWays();
        openedAnew();
        Check.end();
    }

    private static void farAndFirst() {
        LeftTown t = Check.square();
        int[] far = {12, 0, 4, 8};
        int[] first = {2, LeftTown.NONE, 2, 2};
        for (int c = 0; c < 4; c++) {
            Check.due("far(0, " + c + ", 0)", t.far(0, c, 0), far[c]);
            Check.due("first(0, " + c + ", 0)", t.first(0, c, 0), first[c]);
        }
        Check.due("far by 3", t.far(0, 3, 3), LeftTown.NONE);
        Check.due("first by 3", t.first(0, 3, 3), LeftTown.NONE);
        Check.due("far by 9 at its end", t.far(0, 1, 9), 0);
        Check.due("no lawful turn", t.far(1, 1, 0), LeftTown.NONE);
        int[][] wrong = {{7, 0, 0}, {8, 0, 0}, {-1, 0, 0}, {40, 0, 0}, {0, 4, 0}, {0, -1, 0}, {0, 0, 10}, {0, 0, -1}};
        for (int[] w : wrong) {
            Check.due("far wrong", t.far(w[0], w[1], w[2]), LeftTown.BAD);
            Check.due("first wrong", t.first(w[0], w[1], w[2]), LeftTown.BAD);
        }
        t.shut(0, true);
        Check.due("far from a shut one", t.far(0, 1, 0), LeftTown.BAD);
        Check.due("first from a shut one", t.first(0, 2, 0), LeftTown.BAD);
        t.shut(0, false);
        Check.law(t, "turn;");
        Check.due("round by law", t.far(0, 0, 0), 4);
        Check.due("first round", t.first(0, 0, 0), 1);
    }

    private static void firstIsTheLeast() {
        LeftTown t = new LeftTown();
        t.crossing(0, 5);
        t.crossing(3, 5);
        t.crossing(6, 5);
        t.crossing(6, 7);
        t.street(0, 1, 1, true);
        t.street(1, 2, 1, true);
        t.street(1, 2, 9, true);
        t.street(2, 3, 1, true);
        t.street(1, 3, 5, true);
        Check.due("three walks are as long", t.far(0, 3, 0), 5);
        Check.due("the least of them", t.first(0, 3, 0), 2);
        Check.due("by 2 the last alone is wide, but not where he is", t.first(0, 3, 2), LeftTown.NONE);
        t.widen(0, 9);
        Check.due("by 2", t.first(0, 3, 2), 8);
        t.widen(3, 9);
        Check.due("by 2, two of them", t.first(0, 3, 2), 4);
        Check.due("by 6", t.first(0, 3, 6), 4);
        t.shut(1, true);
        Check.due("shut", t.first(0, 3, 0), 4);
    }

    private static void freely() {
        LeftTown t = Check.square();
        int[][] due = {{0, 4, 8, 12}, {4, 0, 4, 8}, {8, 4, 0, 4}, {4, 8, 4, 0}};
        for (int a = 0; a < 4; a++) {
            for (int b = 0; b < 4; b++) {
                Check.due("free(" + a + ", " + b + ")", t.free(a, b), due[a][b]);
            }
        }
        t.shut(2, true);
        Check.due("free(0, 3), shut", t.free(0, 3), LeftTown.NONE);
        Check.due("free(3, 2), shut", t.free(3, 2), 12);
        Check.due("free(4, 0)", t.free(4, 0), LeftTown.BAD);
        Check.due("free(0, 4)", t.free(0, 4), LeftTown.BAD);
        Check.due("free(-1, 0)", t.free(-1, 0), LeftTown.BAD);
        Check.law(t, "on if 1 > 2;");
        Check.due("whatever the law", t.free(3, 2), 12);
    }

    private static void reachAndPairs() {
        LeftTown t = Check.square();
        Check.due("reach(0, 0)", t.reach(0, 0), 15);
        Check.due("reach(5, 0)", t.reach(5, 0), 4);
        Check.due("reach(0, 3)", t.reach(0, 3), 6);
        Check.due("reach(0, 9)", t.reach(0, 9), 2);
        Check.due("reach(7, 0)", t.reach(7, 0), LeftTown.BAD);
        Check.due("reach(-2, 0)", t.reach(-2, 0), LeftTown.BAD);
        Check.due("reach(0, 10)", t.reach(0, 10), LeftTown.BAD);
        Check.due("pairs(0)", t.pairs(0), 19);
        Check.due("pairs(2)", t.pairs(2), 19);
        Check.due("pairs(3)", t.pairs(3), 10);
        Check.due("pairs(9)", t.pairs(9), 7);
        t.shut(2, true);
        Check.due("reach(0, 0), shut", t.reach(0, 0), 6);
        Check.due("reach(4, 0), shut", t.reach(4, 0), LeftTown.BAD);
        Check.due("pairs(0), shut", t.pairs(0), 8);
    }

    private static void never() {
        LeftTown t = Check.square();
        t.crossing(9, 9);
        Check.due("never(0)", t.never(0), 16);
        Check.due("never(3)", t.never(3), 24 + 1);
        Check.due("never(9)", t.never(9), 31);
        t.shut(3, true);
        Check.due("never(0), shut", t.never(0), 16 + 1 + 2);
    }

    private static void parts() {
        LeftTown t = Check.square();
        Check.due("parts(0)", t.parts(0), 4);
        Check.due("parts(3)", t.parts(3), 7);
        Check.law(t, "turn;");
        Check.due("parts(0) by all turns", t.parts(0), 1);
        t.shut(3, true);
        t.shut(1, true);
        Check.due("two lone streets", t.parts(0), 2);
        Check.law(t, "left;");
        Check.due("four lone courses", t.parts(0), 4);
    }

    private static void loops() {
        LeftTown t = Check.square();
        Check.due("loop(0, 0)", t.loop(0, 0), 16);
        Check.due("loop(6, 2)", t.loop(6, 2), 16);
        Check.due("loop(6, 3)", t.loop(6, 3), LeftTown.NONE);
        Check.due("loop(1, 0)", t.loop(1, 0), LeftTown.NONE);
        Check.due("loop(7, 0)", t.loop(7, 0), LeftTown.BAD);
        Check.due("loop(0, 10)", t.loop(0, 10), LeftTown.BAD);
        Check.due("loop(-1, 0)", t.loop(-1, 0), LeftTown.BAD);
        Check.law(t, "turn;");
        Check.due("there and back", t.loop(0, 0), 8);
        Check.due("no way back but round", t.loop(6, 0), 16);
        Check.law(t, "round;");
        Check.due("a one-way street", t.loop(6, 0), LeftTown.NONE);
    }

    private static void worst() {
        LeftTown t = Check.square();
        Check.due("worst(0)", t.worst(0), 8);
        Check.due("worst(9)", t.worst(9), 0);
        Check.law(t, "turn;");
        Check.due("worst(0) by all turns", t.worst(0), 0);
        LeftTown bare = new LeftTown();
        bare.crossing(0, 0);
        bare.crossing(1, 0);
        Check.due("no streets", bare.worst(0), LeftTown.NONE);
        bare.street(0, 1, 1, false);
        bare.shut(0, true);
        Check.due("no courses", bare.worst(0), LeftTown.NONE);
        Check.due("bare pairs", bare.pairs(0), 0);
        Check.due("bare never", bare.never(0), 3);
        bare.shut(0, false);
        Check.due("one street", bare.worst(0), 0);
    }

    private static void opened() {
        LeftTown t = Check.square();
        Check.due("none is shut", t.opened(0), LeftTown.NONE);
        t.shut(1, true);
        t.shut(2, true);
        Check.due("the second helps more", t.opened(0), 1);
        t.street(1, 2, 9, false);
        Check.due("the third helps more now", t.opened(0), 2);
        Check.due("by 3 it does not", t.opened(3), 1);
        Check.due("what was asked stays shut", t.streetOf(1, 5) + t.streetOf(2, 5), 2);
        t.shut(1, false);
        t.shut(2, false);
        Check.due("none is shut any more", t.opened(0), LeftTown.NONE);
        LeftTown same = new LeftTown();
        same.crossing(0, 0);
        same.crossing(1, 0);
        same.crossing(2, 0);
        same.street(0, 1, 1, true);
        same.shut(0, true);
        Check.due("the only one", same.opened(9), 0);
        same.shut(0, false);
        same.street(1, 2, 1, true);
        same.street(1, 2, 1, true);
        same.shut(1, true);
        same.shut(2, true);
        Check.due("of several the least", same.opened(0), 1);
        same.shut(0, true);
        Check.due("each alone helps by itself", same.opened(0), 0);
        same.street(2, 1, 1, false);
        same.shut(3, true);
        Check.due("both ways help more", same.opened(0), 3);
    }

    private static void meeting() {
        LeftTown t = Check.square();
        t.walker(0, 0);
        t.walker(4, 0);
        t.walker(2, 3);
        Check.due("place", t.meet(0, 1, 0), 1);
        Check.due("far", t.meet(0, 1, 1), 8);
        Check.due("place, turned about", t.meet(1, 0, 0), 1);
        Check.due("a cart stands still", t.meet(0, 2, 0), 2);
        Check.due("far to the cart", t.meet(0, 2, 1), 4);
        Check.due("the cart can't come to meet him", t.meet(1, 2, 0), 2);
        Check.due("he goes all the way", t.meet(1, 2, 1), 12);
        Check.due("he goes all the way, turned about", t.meet(2, 1, 1), 12);
        t.put(1, 2);
        Check.due("both at one place", t.meet(1, 2, 0), 2);
        Check.due("far 0", t.meet(1, 2, 1), 0);
        Check.due("meet(0, 0)", t.meet(0, 0, 0), LeftTown.BAD);
        Check.due("meet(0, 3)", t.meet(0, 3, 0), LeftTown.BAD);
        Check.due("meet(-1, 0)", t.meet(-1, 0, 0), LeftTown.BAD);
        Check.due("meet what 2", t.meet(0, 1, 2), LeftTown.BAD);
        Check.due("meet what -1", t.meet(0, 1, -1), LeftTown.BAD);
        t.put(0, 5);
        t.put(1, 3);
        Check.due("they never meet", t.meet(0, 1, 0), LeftTown.NONE);
        Check.due("they never meet, far", t.meet(0, 1, 1), LeftTown.NONE);
    }

    // Read as: he is at its end still, and no TURN leads from it.
    private static void meetingWhereAStreetWasShut() {
        LeftTown t = Check.square();
        t.walker(0, 0);
        t.walker(4, 0);
        t.shut(2, true);
        Check.due("nobody comes to 3", t.meet(0, 1, 0), LeftTown.NONE);
        t.shut(2, false);
        t.put(1, 2);
        t.put(0, 6);
        t.shut(1, true);
        t.street(1, 2, 5, false);
        Check.due("the other comes to 2", t.meet(0, 1, 0), 2);
        Check.due("as far as that", t.meet(0, 1, 1), 8);
        t.put(0, 0);
        t.shut(1, false);
        t.put(1, 6);
        t.shut(0, true);
        t.street(0, 1, 5, false);
        Check.due("the other comes to 1", t.meet(0, 1, 0), 1);
        Check.due("as far as that", t.meet(1, 0, 1), 4);
        t.shut(3, true);
        Check.due("both are no more, and apart", t.meet(0, 1, 0), LeftTown.NONE);
    }

    private static void others() {
        LeftTown t = Check.star();
        int[] own = {1, 2, 4, 8};
        int none = 10;
        Check.due("other(0)", t.other(0), none);
        int[] due = new int[16];
        String[] laws = {"on;", "left;", "right;", "round;"};
        for (int i = 0; i < 4; i++) {
            due[own[i]] = t.other(own[i]);
        }
        Check.law(t, laws[0]);
        Check.due("on", due[1], t.pairs(0));
        Check.law(t, laws[1]);
        Check.due("left, sharp too", due[2], t.pairs(0));
        Check.law(t, laws[3]);
        Check.due("round", due[8], t.pairs(0));
        Check.law(t, laws[2]);
        Check.due("right with round is right by law", t.other(12), t.pairs(0));
        Check.isTrue("right alone is less", due[4] < t.pairs(0));
        Check.law(t, "on if 1 > 2;");
        Check.due("whatever the law", t.other(2), due[2]);
        Check.law(t, "turn;");
        Check.due("other(15)", t.other(15), t.pairs(0));
        Check.due("other(16)", t.other(16), LeftTown.BAD);
        Check.due("other(-1)", t.other(-1), LeftTown.BAD);
    }

    private static void wrongWidths() {
        LeftTown t = Check.square();
        for (int width : new int[] {-1, 10, Integer.MIN_VALUE, Integer.MAX_VALUE}) {
            Check.due("pairs", t.pairs(width), LeftTown.BAD);
            Check.due("never", t.never(width), LeftTown.BAD);
            Check.due("parts", t.parts(width), LeftTown.BAD);
            Check.due("worst", t.worst(width), LeftTown.BAD);
            Check.due("opened", t.opened(width), LeftTown.BAD);
        }
    }

    // COURSE 0 and CROSSING 0 count as any other.
    private static void theFirstOfAll() {
        LeftTown t = Check.square();
        Check.due("FIRST is 0", t.first(6, 1, 0), 0);
        t.walker(4, 0);
        t.walker(6, 0);
        Check.due("MEET is 0", t.meet(0, 1, 0), 0);
        Check.due("one of them goes 4", t.meet(0, 1, 1), 4);
        LeftTown one = new LeftTown();
        one.crossing(0, 0);
        one.crossing(4, 0);
        one.crossing(4, 4);
        one.crossing(0, 4);
        for (int s = 0; s < 4; s++) {
            one.street(s, (s + 1) % 4, 1, true);
        }
        one.street(1, 0, 1, true);
        Check.due("all the way round", one.far(0, 0, 0), 12);
        Check.due("freely it is 4", one.free(1, 0), 4);
        Check.due("only from COURSE 0 to CROSSING 0", one.worst(0), 8);
        one.shut(4, true);
        Check.due("no other is longer than freely", one.worst(0), 0);
        Check.due("STREET 4 helps, if by its own", one.opened(0), 4);
        one.shut(0, true);
        Check.due("STREET 0 helps more", one.opened(0), 0);
    }

    // Two walks part behind the first CROSSING, two behind the second: the least COURSE each time.
    private static void firstsOnTheWay() {
        LeftTown t = new LeftTown();
        t.crossing(0, 0);
        t.crossing(1, 0);
        t.crossing(2, 0);
        t.crossing(3, 0);
        t.street(2, 3, 1, true);
        t.street(2, 3, 1, true);
        t.street(1, 2, 1, true);
        t.street(1, 2, 1, true);
        t.street(0, 1, 1, true);
        t.street(1, 3, 1, true);
        Check.due("first", t.first(8, 3, 0), 4);
        Check.due("two ROWS", t.prove(8, 3), 2);
        Check.due("the first", t.row(0, 0), 4);
        Check.due("the second", t.row(1, 0), 0);
        t.shut(0, true);
        t.shut(2, true);
        t.prove(8, 3);
        Check.due("the first, one shut", t.row(0, 0), 6);
        Check.due("the second, one shut", t.row(1, 0), 2);
        t.shut(1, true);
        Check.due("one ROW", t.prove(8, 3), 1);
        Check.due("straight there", t.row(0, 0), 10);
        t.shut(5, true);
        Check.due("none", t.first(8, 3, 0), LeftTown.NONE);
    }

    // FREE is on foot though WORST is by a WIDTH.
    private static void freeIsOnFoot() {
        LeftTown t = new LeftTown();
        t.crossing(0, 0);
        t.crossing(1, 0);
        t.crossing(2, 0);
        t.crossing(2, 2);
        t.crossing(1, 2);
        t.street(0, 1, 9, true);
        t.street(1, 2, 9, true);
        t.street(2, 3, 9, true);
        t.street(3, 4, 9, true);
        t.street(1, 4, 3, true);
        Check.due("on foot", t.worst(0), 0);
        Check.due("as WIDE as the short way", t.worst(3), 0);
        Check.due("wider", t.worst(4), 4 - 2);
        Check.due("the long way", t.far(0, 4, 4), 4);
        Check.due("the short way", t.free(1, 4), 2);
    }

    private static void meetingTies() {
        LeftTown t = new LeftTown();
        for (int i = 0; i < 5; i++) {
            t.crossing(2 * i, 0);
        }
        for (int i = 0; i < 4; i++) {
            t.street(i, i + 1, 5, false);
        }
        t.walker(0, 0);
        t.walker(7, 5);
        Check.due("amid them", t.meet(0, 1, 0), 2);
        Check.due("as far for both", t.meet(0, 1, 1), 2);
        t.put(1, 5);
        Check.due("the greater is 2 at both: the least", t.meet(0, 1, 0), 1);
        Check.due("the greater", t.meet(0, 1, 1), 2);
        Check.due("turned about", t.meet(1, 0, 0), 1);
        t.widen(1, 4);
        Check.due("the cart can't: he comes to it", t.meet(0, 1, 0), 2);
        t.put(0, 5);
        Check.due("both there", t.meet(0, 1, 1), 0);
    }

    // A group needs TURNS both ways: one way alone makes none.
    private static void partsBothWays() {
        LeftTown t = new LeftTown();
        for (int i = 0; i < 4; i++) {
            t.crossing(i, 0);
        }
        t.street(0, 1, 1, true);
        t.street(1, 2, 1, true);
        t.street(2, 3, 1, true);
        Check.due("three behind one another", t.parts(0), 3);
        t.street(3, 0, 1, true);
        Check.due("back by no lawful TURN", t.parts(0), 4);
        Check.law(t, "turn;");
        Check.due("one group", t.parts(0), 1);
        Check.law(t, "turn if place < 3;");
        Check.due("not round at 3", t.parts(0), 4);
        Check.due("one WIDE is less than 2", t.parts(2), 4);
        t.shut(0, true);
        Check.due("a COURSE less", t.parts(0), 3);
    }

    // STREET 0 of now is another one than that of which opened() was asked before.
    private static void openedAnew() {
        LeftTown t = new LeftTown();
        t.crossing(0, 0);
        t.crossing(1, 0);
        t.keep();
        t.street(0, 1, 1, false);
        t.shut(0, true);
        Check.due("both ways", t.opened(0), 0);
        t.again();
        Check.due("no STREET", t.opened(0), LeftTown.NONE);
        t.street(0, 1, 1, true);
        Check.due("one way, and open", t.opened(0), LeftTown.NONE);
        Check.due("its own end", t.pairs(0), 1);
    }
}
