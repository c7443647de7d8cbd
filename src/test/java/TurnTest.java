/** Where KINDS of TURNS part, and where a TURN may just be gone and just not. */
public final class TurnTest {
    private static final int ON = 1, LEFT = 2, SHARP = 3, RIGHT = 4, ROUND = 5;

    public static void main(String[] args) {
        kinds();
        allArrows();
        others();
        widths();
        clausesAbove();
        factsOfBothStreets();
        days();
        Check.end();
    }

    /** KIND of the TURN at (x, y) from the arrow (ux, uy) to the arrow (vx, vy). */
    private static int kind(int x, int y, int ux, int uy, int vx, int vy) {
        LeftTown t = new LeftTown();
        t.crossing(x, y);
        t.crossing(x - ux, y - uy);
        int to = ux == -vx && uy == -vy ? 1 : t.crossing(x + vx, y + vy);
        t.street(1, 0, 1, true);
        t.street(0, to, 1, true);
        return t.turn(0, 2);
    }

    private static void kinds() {
        Check.due("on", kind(4, 4, 1, 0, 5, 0), ON);
        Check.due("on, aslant", kind(3, 3, 1, 1, 6, 6), ON);
        Check.due("hardly left", kind(1, 4, 1, 0, 8, 1), LEFT);
        Check.due("hardly right", kind(1, 4, 1, 0, 8, -1), RIGHT);
        Check.due("left, p 0", kind(4, 4, 1, 0, 0, 1), LEFT);
        Check.due("left, p 1", kind(4, 0, 1, 0, 1, 9), LEFT);
        Check.due("sharp, p -1", kind(4, 0, 1, 0, -1, 9), SHARP);
        Check.due("right, p 0", kind(4, 4, 1, 0, 0, -1), RIGHT);
        Check.due("right, p -1", kind(4, 9, 1, 0, -1, -9), RIGHT);
        Check.due("sharp, z 1", kind(8, 0, 1, 0, -8, 1), SHARP);
        Check.due("right, z -1", kind(8, 1, 1, 0, -8, -1), RIGHT);
        Check.due("round, z 0", kind(8, 0, 1, 0, -8, 0), ROUND);
        Check.due("round, the same place", kind(8, 0, 1, 0, -1, 0), ROUND);
        Check.due("round, aslant", kind(6, 6, 1, 1, -3, -3), ROUND);
        Check.due("left, from corner to corner", kind(9, 9, 9, 9, -9, 0), SHARP);
        Check.due("right, from corner to corner", kind(9, 9, 9, 9, 0, -9), RIGHT);
        Check.due("left, aslant", kind(0, 0, -1, -1, 1, 0), SHARP);
        Check.due("up, then to the left", kind(5, 5, 0, 1, -1, 0), LEFT);
        Check.due("up, then to the right", kind(5, 5, 0, 1, 1, 0), RIGHT);
        Check.due("down, then to the left", kind(5, 5, 0, -1, 1, 0), LEFT);
        Check.due("back, then to the left", kind(5, 5, -1, 0, 0, -1), LEFT);
    }

    private static void allArrows() {
        for (int i = 0; i < 81; i++) {
            for (int k = 0; k < 81; k++) {
                int ux = i % 9 - 4;
                int uy = i / 9 - 4;
                int vx = k % 9 - 4;
                int vy = k / 9 - 4;
                if ((ux != 0 || uy != 0) && (vx != 0 || vy != 0)) {
                    double way = Math.toDegrees(Math.atan2(vy, vx) - Math.atan2(uy, ux));
                    long turned = Math.round(1000 * way);
                    Check.due("from " + ux + ", " + uy + " to " + vx + ", " + vy, kind(4, 4, ux, uy, vx, vy), byDegrees(turned));
                }
            }
        }
    }

    private static int byDegrees(long thousandths) {
        long turned = Math.floorMod(thousandths, 360000L);
        if (turned == 0) {
            return ON;
        }
        if (turned == 180000) {
            return ROUND;
        }
        return turned > 180000 ? RIGHT : turned > 90000 ? SHARP : LEFT;
    }

    private static void others() {
        LeftTown t = Check.star();
        for (int u = 0; u < 40; u++) {
            Check.due("none onto itself", t.turn(u, u), LeftTown.NONE);
        }
        Check.due("the same STREET back", t.turn(3, 2), ROUND);
        Check.due("and back again", t.turn(2, 3), ROUND);
        t.street(1, 2, 1, true);
        t.street(1, 2, 1, true);
        Check.due("no TURN where both begin", t.turn(10, 12), LeftTown.NONE);
        Check.due("nor from the other way of a one-way STREET", t.turn(11, 12), LeftTown.NONE);
        Check.due("nor onto it", t.turn(2, 11), LeftTown.NONE);
        Check.due("round by another STREET", t.turn(10, 3), ROUND);
        t.shut(5, true);
        Check.due("shut", t.turn(10, 3), LeftTown.NONE);
        Check.due("shut", t.may(10, 3, 0), LeftTown.NONE);
        t.shut(5, false);
        Check.due("open", t.turn(10, 3), ROUND);
    }

    private static void widths() {
        for (int from = 1; from <= 9; from++) {
            for (int to = 1; to <= 9; to++) {
                LeftTown t = Check.star();
                t.widen(0, from);
                t.widen(1, to);
                for (int width = 0; width <= 9; width++) {
                    Check.due("from " + from + " to " + to + " by " + width, t.may(0, 2, width), width <= from && width <= to ? 1 : 0);
                }
            }
        }
        LeftTown t = Check.star();
        t.widen(0, 9);
        t.widen(3, 9);
        for (String law : new String[] {"", "left;", "sharp;", "turn;"}) {
            Check.law(t, law);
            for (int width = 0; width <= 9; width++) {
                Check.due("sharp by " + width + ", '" + law + "'", t.may(0, 6, width), width == 0 ? 1 : 0);
            }
        }
    }

    // A CLAUSE tells of its own KIND and of those under it, and of no other.
    private static void clausesAbove() {
        int[] to = {2, 4, 6, 8, 1};
        String[] kinds = {"turn", "on", "left", "sharp", "right", "round"};
        String[] due = {"11111", "10000", "01100", "00100", "00011", "00001"};
        for (int k = 0; k < 6; k++) {
            for (int other = 0; other < 6; other++) {
                LeftTown t = Check.star();
                Check.law(t, kinds[other] + " if 1 > 1; " + kinds[k] + "; " + kinds[other] + " if 1 < 1;");
                for (int i = 0; i < 5; i++) {
                    Check.due(kinds[k] + ": TURN to " + to[i], t.may(0, to[i], 0), due[k].charAt(i) - '0');
                }
            }
        }
    }

    private static void factsOfBothStreets() {
        LeftTown t = Check.star();
        t.crossing(4, 1);
        t.street(1, 6, 3, false);
        String[] facts = {"wide", "was", "long", "place", "width", "day"};
        int[] right = {3, 5, 3, 1, 2, 6};
        t.day(6);
        for (int i = 0; i < 6; i++) {
            for (int n = 0; n <= 9; n++) {
                Check.law(t, "right if " + facts[i] + " = " + n + ";");
                Check.due(facts[i] + " = " + n, t.may(0, 10, 2), n == right[i] ? 1 : 0);
            }
            Check.law(t, "right if " + facts[i] + " < " + right[i] + " or " + facts[i] + " > " + right[i] + ";");
            Check.due(facts[i] + " is no other", t.may(0, 10, 2), 0);
        }
    }

    private static void days() {
        LeftTown t = Check.star();
        Check.law(t, "right if day = 0; on if day > 5; left if not day < 6;");
        for (int day = 0; day <= 6; day++) {
            t.day(day);
            Check.due("right on " + day, t.may(0, 8, 0), day == 0 ? 1 : 0);
            Check.due("on on " + day, t.may(0, 2, 0), day == 6 ? 1 : 0);
            Check.due("left on " + day, t.may(0, 4, 0), day == 6 ? 1 : 0);
        }
        t.day(7);
        Check.due("no seventh", t.may(0, 2, 0), 1);
    }
}
