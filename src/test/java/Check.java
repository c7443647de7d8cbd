/** Counts answers that are due and those that are not, for tests that end by exit code 1. */
final class Check {
    private static int right = 0;
    private static int wrong = 0;

    private Check() {
    }

    static void due(String call, long got, long want) {
        if (got == want) {
            right++;
            return;
        }
        wrong++;
        if (wrong <= 50) {
            System.out.println(call + " answered " + got + ", due is " + want);
        }
    }

    static void isTrue(String what, boolean is) {
        due(what, is ? 1 : 0, 1);
    }

    static void end() {
        System.out.println(right + " passed, " + wrong + " failed");
        if (wrong != 0 || right == 0) {
            System.exit(1);
        }
    }

    /** Feeds a text to THE TAPE; each character is a byte. */
    static void feed(LeftTown town, String text) {
        for (int i = 0; i < text.length(); i += 8) {
            long eight = 0;
            int n = Math.min(8, text.length() - i);
            for (int k = 0; k < n; k++) {
                eight |= (long) (text.charAt(i + k) & 255) << 8 * k;
            }
            town.feed(eight, n);
        }
    }

    static int law(LeftTown town, String text) {
        feed(town, text);
        return town.law();
    }

    /** 0 (0,0), 1 (4,0), 2 (4,4), 3 (0,4); STREETS 0 to 3 round it to the left, the last one way. */
    static LeftTown square() {
        LeftTown town = new LeftTown();
        town.crossing(0, 0);
        town.crossing(4, 0);
        town.crossing(4, 4);
        town.crossing(0, 4);
        town.street(0, 1, 3, false);
        town.street(1, 2, 3, false);
        town.street(2, 3, 2, false);
        town.street(3, 0, 9, true);
        return town;
    }

    /** CROSSING 1 amid others: from COURSE 0 on it goes on (2), left (4), sharp (6), right (8), round (1). */
    static LeftTown star() {
        LeftTown town = new LeftTown();
        town.crossing(0, 4);
        town.crossing(4, 4);
        town.crossing(8, 4);
        town.crossing(4, 8);
        town.crossing(0, 8);
        town.crossing(4, 0);
        town.street(0, 1, 5, false);
        town.street(1, 2, 6, false);
        town.street(1, 3, 7, false);
        town.street(1, 4, 8, false);
        town.street(1, 5, 9, false);
        return town;
    }
}
