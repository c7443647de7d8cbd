/** Promises 13 to 16: WALKERS. */
public final class WalkerTest {
    public static void main(String[] args) {
        making();
        going();
        putting();
        Check.end();
    }

    private static void making() {
        LeftTown t = Check.square();
        Check.due("walker(7, 0): one way", t.walker(7, 0), LeftTown.BAD);
        Check.due("walker(8, 0)", t.walker(8, 0), LeftTown.BAD);
        Check.due("walker(-1, 0)", t.walker(-1, 0), LeftTown.BAD);
        Check.due("walker(40, 0)", t.walker(40, 0), LeftTown.BAD);
        Check.due("walker(6, 10)", t.walker(6, 10), LeftTown.BAD);
        Check.due("walker(6, -1)", t.walker(6, -1), LeftTown.BAD);
        Check.due("walker(0, 4): too wide", t.walker(0, 4), LeftTown.BAD);
        Check.due("walker(0, 3)", t.walker(0, 3), 0);
        Check.due("walker(6, 9)", t.walker(6, 9), 1);
        t.shut(1, true);
        Check.due("walker(2, 0): shut", t.walker(2, 0), LeftTown.BAD);
        Check.due("walker(5, 0)", t.walker(5, 0), 2);
        Check.due("walker(5, 2)", t.walker(5, 2), 3);
        Check.due("the fifth", t.walker(0, 0), LeftTown.FULL);
        Check.due("bad comes ahead of full", t.walker(7, 0), LeftTown.BAD);
        int[] last = {5, 2, 0};
        for (int what = 0; what < 3; what++) {
            Check.due("walkerOf(3, " + what + ")", t.walkerOf(3, what), last[what]);
        }
        Check.due("walkerOf(0, 3)", t.walkerOf(0, 3), LeftTown.BAD);
        Check.due("walkerOf(0, -1)", t.walkerOf(0, -1), LeftTown.BAD);
        Check.due("walkerOf(4, 0)", t.walkerOf(4, 0), LeftTown.BAD);
        Check.due("walkerOf(-1, 0)", t.walkerOf(-1, 0), LeftTown.BAD);
    }

    private static void going() {
        LeftTown t = Check.star();
        t.walker(0, 0);
        t.walker(0, 5);
        Check.due("go(2, 2)", t.go(2, 2), LeftTown.BAD);
        Check.due("go(0, 40)", t.go(0, 40), LeftTown.BAD);
        Check.due("go(0, -1)", t.go(0, -1), LeftTown.BAD);
        Check.due("no turn", t.go(0, 3), LeftTown.NONE);
        Check.due("no street", t.go(0, 20), LeftTown.NONE);
        Check.due("right", t.go(0, 8), LeftTown.STATE);
        Check.due("sharp with a cart", t.go(1, 6), LeftTown.STATE);
        Check.due("sharp on foot", t.go(0, 6), 8);
        Check.due("walkerOf(0, 0)", t.walkerOf(0, 0), 6);
        Check.due("walkerOf(0, 2)", t.walkerOf(0, 2), 8);
        Check.due("round", t.go(0, 7), LeftTown.STATE);
        Check.law(t, "turn;");
        Check.due("round by law", t.go(0, 7), 16);
        Check.due("on", t.go(1, 2), 4);
        Check.due("the other stands", t.walkerOf(0, 2), 16);
        t.shut(3, true);
        Check.due("his course is no more", t.go(0, 2), LeftTown.NONE);
        Check.due("nor is its other way", t.go(0, 6), LeftTown.NONE);
        Check.due("he has it still", t.walkerOf(0, 0), 7);
        t.shut(3, false);
        t.shut(1, true);
        Check.due("to one that is no course now", t.go(0, 2), LeftTown.NONE);
        t.shut(1, false);
        Check.due("open again", t.go(0, 2), 20);
        t.widen(1, 4);
        Check.due("his own street is too narrow", t.go(1, 3), LeftTown.STATE);
    }

    private static void putting() {
        LeftTown t = Check.star();
        t.walker(0, 0);
        t.walker(2, 6);
        t.go(0, 4);
        Check.due("put(0, 8)", t.put(0, 8), 1);
        Check.due("course", t.walkerOf(0, 0), 8);
        Check.due("miles stay", t.walkerOf(0, 2), 4);
        Check.due("too narrow", t.put(1, 0), LeftTown.BAD);
        Check.due("as wide", t.put(1, 3), 1);
        Check.due("no walker", t.put(2, 0), LeftTown.BAD);
        Check.due("no course", t.put(0, 10), LeftTown.BAD);
        Check.due("put(0, -1)", t.put(0, -1), LeftTown.BAD);
        t.shut(4, true);
        Check.due("shut", t.put(0, 9), LeftTown.BAD);
        Check.due("nothing changed", t.walkerOf(0, 0), 8);
    }
}
