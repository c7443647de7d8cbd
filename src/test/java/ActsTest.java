/** ACTS of every TURN about a CROSSING, where ints wrap and quotients are cut, and the bodies that ran. */
public final class ActsTest {
    private static final int MIN = Integer.MIN_VALUE, MAX = Integer.MAX_VALUE;
    private static final int[] NUMBERS = {0, 1, -1, 2, -2, 7, -7, 100, -100, MAX, MIN, MAX - 1, MIN + 1, MAX - 9, MIN + 9,
        0x3fffffff, 0x40000000, 0x40000001, -0x40000000, -0x40000001, 0x2aaaaaaa, 0x2aaaaaab, -0x2aaaaaab, 0x15555555, -0x15555556};
    private static final String[][] BODIES = {
        {},
        {"20 10", "11 20 10", "12", "13 11 20 10"},
        {"10", "30 11 10", "12", "13 30 11 10"},
        {"50 10", "30 11 50 10", "12", "51 13 30 11 50 10 12"},
        {"10", "11 10", "40 12", "13 11 10"},
        {"10", "60 11 10", "61 40 12 10", "13 60 11 10"}};

    public static void main(String[] args) {
        int[] seen = new int[6];
        for (int n = 0; n < 40; n++) {
            for (int a = 0; a < 40; a++) {
                int kind = town().turn(n, a);
                if (kind > 0) {
                    seen[kind]++;
                    actsOf(kind, n, a);
                }
            }
        }
        for (int kind = 1; kind <= 5; kind++) {
            Check.isTrue("TURNS of KIND " + kind, seen[kind] >= 4);
        }
        leastByMinusOne();
        onlyTheLatest();
        Check.end();
    }

    /** CROSSING 1 amid others; STREETS lead to it and from it, so that a is above n and below it in TURNS of all KINDS. */
    private static LeftTown town() {
        LeftTown t = Check.star();
        t.crossing(8, 8);
        t.crossing(0, 0);
        t.street(6, 1, 5, false);
        t.street(7, 1, 5, false);
        t.street(2, 1, 5, false);
        t.street(3, 1, 5, false);
        return t;
    }

    private static void actsOf(int kind, int n, int a) {
        LeftTown t = town();
        t.shelf(1, 0, n, a);
        for (int act = 0; act < 4; act++) {
            String[] bodies = BODIES[kind][act].split(" ");
            for (int x : NUMBERS) {
                String call = "KIND " + kind + " from " + n + " to " + a + ", act(1, " + act + ", " + x + ")";
                Check.due(call, t.act(1, act, x), due(kind, act, x, n, a));
            }
            Check.due("how many bodies", t.many(7), bodies.length);
            for (int i = 0; i < bodies.length; i++) {
                Check.due("body " + i + " of KIND " + kind + ", act " + act, t.trace(i), Integer.parseInt(bodies[i]));
            }
            Check.due("behind the last", t.trace(bodies.length), LeftTown.NONE);
        }
    }

    // Ints that wrap, told by longs that do not.
    private static long wrap(long v) {
        long low = v & 0xffffffffL;
        return low > MAX ? low - 0x100000000L : low;
    }

    private static long due(int kind, int act, long x, long n, long a) {
        switch (act) {
            case 0:
                return turns(kind, x, n, a);
            case 1:
                return goes(kind, x, n, a);
            case 2:
                return sees(kind, x, n, a);
            default:
                long told = goes(kind, x, n, a) ^ n;
                return kind == 3 ? wrap(told + sees(kind, n, n, a)) : told;
        }
    }

    private static long turns(int kind, long x, long n, long a) {
        long turned = wrap(x + a);
        return kind == 1 ? wrap(turned * 3) : kind == 3 ? turned ^ n : turned;
    }

    private static long goes(int kind, long x, long n, long a) {
        long gone = wrap(turns(kind, x, n, a) * 2);
        return kind == 2 || kind == 3 ? wrap(gone - a) : kind == 5 ? wrap(0 - gone) : gone;
    }

    private static long sees(int kind, long x, long n, long a) {
        long seen = wrap(kind == 4 || kind == 5 ? wrap(x + 1) : x);
        long size = Math.abs(seen) / Math.abs(a - n);
        long part = wrap(seen < 0 == a < n ? size : -size);
        return kind == 5 ? wrap(part + turns(kind, n, n, a)) : part;
    }

    // The only quotient that wraps: the least int by -1.
    private static void leastByMinusOne() {
        LeftTown t = new LeftTown();
        t.crossing(0, 0);
        t.crossing(4, 0);
        t.crossing(8, 0);
        t.street(2, 1, 1, false);
        t.street(0, 1, 1, false);
        Check.due("on, from 2 to 1", t.turn(2, 1), 1);
        t.shelf(0, 0, 2, 1);
        Check.due("the least by -1", t.act(0, 2, MIN), MIN);
        Check.due("the next by -1", t.act(0, 2, MIN + 1), MAX);
        Check.due("the greatest by -1", t.act(0, 2, MAX), MIN + 1);
    }

    private static void onlyTheLatest() {
        LeftTown t = town();
        t.shelf(0, 0, 0, 6);
        t.shelf(1, 0, 0, 4);
        t.act(0, 3, 1);
        Check.due("seven bodies", t.many(7), 7);
        t.act(1, 0, 1);
        Check.due("of the latest act alone", t.many(7), 1);
        Check.due("its body", t.trace(0), 10);
        Check.due("no other", t.trace(1), LeftTown.NONE);
        t.taken(0, 0);
        t.shelf(1, 2, 0, 0);
        t.keep();
        t.again();
        Check.due("other calls leave it", t.trace(0), 10);
        Check.due("an ACT of nothing does not", t.act(1, 0, 1), 0);
        Check.due("no TRACE", t.trace(0), LeftTown.NONE);
        Check.due("none are kept", t.many(7), 0);
    }
}
