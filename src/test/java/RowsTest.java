/** Promises 29 to 32: ROWS and THE READER. */
public final class RowsTest {
    public static void main(String[] args) {
        proving();
        altering();
        judging();
        moreThanTwenty();
        onFoot();
        Check.end();
    }

    private static void proving() {
        LeftTown t = Check.square();
        Check.due("prove(0, 0)", t.prove(0, 0), 3);
        int[][] due = {{2, 2, 4}, {4, 3, 8}, {6, 0, 12}};
        for (int i = 0; i < 3; i++) {
            for (int what = 0; what < 3; what++) {
                Check.due("row(" + i + ", " + what + ")", t.row(i, what), due[i][what]);
            }
        }
        Check.due("row(3, 0)", t.row(3, 0), -9);
        Check.due("row(-1, 0)", t.row(-1, 0), -9);
        Check.due("row(0, 3)", t.row(0, 3), -9);
        Check.due("row(0, -1)", t.row(0, -1), -9);
        Check.due("no far", t.prove(1, 2), LeftTown.NONE);
        Check.due("prove(7, 0)", t.prove(7, 0), LeftTown.BAD);
        Check.due("prove(0, 4)", t.prove(0, 4), LeftTown.BAD);
        Check.due("prove(0, -1)", t.prove(0, -1), LeftTown.BAD);
        Check.due("ROWS stay when refused", t.many(5), 3);
        Check.due("far 0", t.prove(0, 1), 0);
        Check.due("no ROWS", t.many(5), 0);
        Check.due("row(0, 0) of none", t.row(0, 0), -9);
    }

    private static void altering() {
        LeftTown t = Check.square();
        t.prove(0, 3);
        Check.due("alterRow(1, 2, -5)", t.alterRow(1, 2, -5), 8);
        Check.due("row(1, 2)", t.row(1, 2), -5);
        Check.due("alterRow(1, 2, 8)", t.alterRow(1, 2, 8), -5);
        Check.due("alterRow(2, 0, 1)", t.alterRow(2, 0, 1), -9);
        Check.due("alterRow(-1, 0, 1)", t.alterRow(-1, 0, 1), -9);
        Check.due("alterRow(0, 3, 1)", t.alterRow(0, 3, 1), -9);
        Check.due("alterRow(0, -1, 1)", t.alterRow(0, -1, 1), -9);
        Check.due("judge", t.judge(0), 0);
    }

    private static void judging() {
        LeftTown t = Check.square();
        Check.due("no ROWS are right", t.judge(0), 0);
        Check.due("judge(7)", t.judge(7), LeftTown.BAD);
        Check.due("judge(-1)", t.judge(-1), LeftTown.BAD);
        t.prove(0, 0);
        Check.due("right", t.judge(0), 0);
        Check.due("from elsewhere", t.judge(4), 1);
        for (int i = 0; i < 3; i++) {
            for (int what = 0; what < 3; what++) {
                for (int v : new int[] {-1, 1, 40, Integer.MIN_VALUE, Integer.MAX_VALUE}) {
                    int was = t.alterRow(i, what, v);
                    Check.due("row " + i + ", " + what + " is " + v, t.judge(0), i + 1);
                    t.alterRow(i, what, was);
                }
            }
        }
        Check.due("right again", t.judge(0), 0);
        t.shut(2, true);
        Check.due("a street was shut", t.judge(0), 2);
        t.shut(2, false);
        Check.law(t, "on;");
        Check.due("no lawful turn", t.judge(0), 1);
        Check.law(t, "left if place < 3;");
        Check.due("no lawful turn at the last", t.judge(0), 3);
        Check.law(t, "");
        t.shut(0, true);
        Check.due("from a shut one", t.judge(0), LeftTown.BAD);
    }

    // A row of CROSSINGS that is gone to its end and back, for only he who comes back may take the wide lane.
    private static void moreThanTwenty() {
        LeftTown t = new LeftTown();
        for (int i = 0; i < 10; i++) {
            t.crossing(i, 0);
        }
        t.crossing(9, 1);
        t.crossing(4, 5);
        for (int i = 0; i < 10; i++) {
            t.street(i, i + 1, 1 + i % 2, false);
        }
        t.street(1, 2, 9, true);
        t.street(2, 3, 9, true);
        t.street(3, 4, 9, true);
        t.street(4, 11, 9, true);
        Check.due("law", Check.law(t, "turn if wide < 9 and not wide = was; turn if place = 10;"
            + "turn if wide = 9 and was = 9; turn if wide = 9 and place = 1 and was = 2;"), 4);
        Check.due("far", t.far(0, 11, 0), 26);
        Check.due("the first 20", t.prove(0, 11), 20);
        Check.due("many(5)", t.many(5), 20);
        for (int i = 0; i < 9; i++) {
            Check.due("there", t.row(i, 0), 2 * (i + 1));
            Check.due("and back", t.row(9 + i, 0), 19 - 2 * i);
        }
        Check.due("onto the lane", t.row(18, 0), 20);
        Check.due("on it", t.row(19, 0), 22);
        Check.due("its end", t.row(19, 1), 3);
        Check.due("till then", t.row(19, 2), 20);
        Check.due("row(20, 0)", t.row(20, 0), -9);
        Check.due("alterRow(20, 0, 1)", t.alterRow(20, 0, 1), -9);
        Check.due("judge", t.judge(0), 0);
        t.alterRow(19, 2, 21);
        Check.due("judge the last", t.judge(0), 20);
    }

    private static void onFoot() {
        LeftTown t = Check.star();
        Check.due("sharp is for those on foot", t.prove(0, 4), 1);
        Check.due("its COURSE", t.row(0, 0), 6);
        Check.due("its end", t.row(0, 1), 4);
        Check.due("its LONG", t.row(0, 2), 8);
        Check.due("THE READER goes on foot", t.judge(0), 0);
        Check.law(t, "turn if width = 0;");
        Check.due("WIDTH is 0", t.prove(0, 4), 1);
        Check.due("WIDTH is 0", t.judge(0), 0);
        Check.law(t, "turn if width > 0;");
        Check.due("WIDTH is not above 0", t.prove(0, 4), LeftTown.NONE);
        Check.due("WIDTH is not above 0", t.judge(0), 1);
        Check.due("ROWS stay", t.many(5), 1);
    }
}
