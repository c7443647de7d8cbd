/** Promises 33 to 40: SHEETS, SHELVES, ACTS, THE TRACE. */
public final class HostTest {
    public static void main(String[] args) {
        sheets();
        items();
        wides();
        shelves();
        rowsOnShelves();
        taken();
        acts();
        noActs();
        traces();
        Check.end();
    }

    private static void sheets() {
        LeftTown t = new LeftTown();
        for (int sort = 0; sort <= 4; sort++) {
            Check.due("sheet(0, " + sort + ", 40)", t.sheet(0, sort, 40), 1);
            Check.due("all 0", t.item(0, sort, 39), 0);
        }
        Check.due("n 0", t.sheet(1, 2, 0), 1);
        Check.due("n 41", t.sheet(1, 2, 41), LeftTown.BAD);
        Check.due("n -1", t.sheet(1, 2, -1), -14);
        Check.due("sort 5", t.sheet(1, 5, 1), LeftTown.BAD);
        Check.due("sort -2", t.sheet(1, -2, 1), LeftTown.BAD);
        Check.due("bad comes ahead of a size", t.sheet(4, 2, -1), LeftTown.BAD);
        Check.due("a sort, too", t.sheet(1, 5, -1), LeftTown.BAD);
        Check.due("sheet 4", t.sheet(4, 2, 1), LeftTown.BAD);
        Check.due("sheet -1", t.sheet(-1, 2, 1), LeftTown.BAD);
        Check.due("missing, n counts nothing", t.sheet(0, -1, -9), 1);
        Check.due("missing, n counts nothing", t.sheet(0, -1, 99), 1);
        Check.due("missing", t.write(0, 0, 1), -11);
        t.sheet(0, 2, 3);
        t.write(0, 1, 5);
        t.sheet(0, 2, 3);
        Check.due("all 0 anew", t.item(0, 2, 1), 0);
    }

    private static void items() {
        LeftTown t = new LeftTown();
        int[] values = {0, 1, -1, 127, 128, 255, 256, 32767, 32768, 65536, Integer.MAX_VALUE, Integer.MIN_VALUE, 2, -11};
        for (int sort = 0; sort <= 4; sort++) {
            t.sheet(2, sort, 4);
            for (int v : values) {
                int due = sort == 0 ? (byte) v : sort == 1 ? (short) v : sort == 4 ? (v != 0 ? 1 : 0) : v;
                Check.due("write " + v, t.write(2, 3, v), 1);
                Check.due("item " + v + " of sort " + sort, t.item(2, sort, 3), due);
                Check.due("the one ahead", t.item(2, sort, 2), 0);
            }
            for (int as = 0; as <= 4; as++) {
                if (as != sort) {
                    Check.due("another sort", t.item(2, as, 0), -13);
                    Check.due("another sort comes ahead of a place", t.item(2, as, 4), -13);
                }
            }
            Check.due("outside", t.item(2, sort, 4), -12);
            Check.due("outside", t.item(2, sort, -1), -12);
            Check.due("outside", t.item(2, sort, Integer.MAX_VALUE), -12);
        }
        Check.due("write outside", t.write(2, 4, 1), -12);
        Check.due("write outside", t.write(2, -1, 1), -12);
        Check.due("write missing", t.write(3, -1, 1), -11);
        Check.due("write sheet 4", t.write(4, 0, 1), LeftTown.BAD);
        Check.due("write sheet -1", t.write(-1, 0, 1), LeftTown.BAD);
        Check.due("item missing", t.item(3, 0, -1), -11);
        Check.due("item sheet 4", t.item(4, 0, 0), LeftTown.BAD);
        Check.due("item sheet -1", t.item(-1, 0, 0), LeftTown.BAD);
        Check.due("item sort 5", t.item(3, 5, 0), LeftTown.BAD);
        Check.due("item sort -1", t.item(3, -1, 0), LeftTown.BAD);
        t.sheet(0, 2, 0);
        Check.due("none in an empty row", t.item(0, 2, 0), -12);
    }

    private static void wides() {
        LeftTown t = Check.square();
        Check.due("missing", t.wides(0, 0, 1), -11);
        Check.due("missing with n 0", t.wides(0, 0, 0), -11);
        t.sheet(0, 4, 4);
        Check.due("booleans", t.wides(0, 0, 1), -13);
        Check.due("booleans with n 0", t.wides(0, 0, 0), -13);
        t.sheet(0, 0, 6);
        int[] bytes = {5, 0, 7, 10, 8, 9};
        for (int i = 0; i < 6; i++) {
            t.write(0, i, bytes[i]);
        }
        Check.due("n 0", t.wides(0, 99, 0), 0);
        Check.due("n -1", t.wides(0, 0, -1), LeftTown.BAD);
        Check.due("n 21", t.wides(0, 0, 21), LeftTown.BAD);
        Check.due("sheet 4", t.wides(4, 0, 1), LeftTown.BAD);
        Check.due("sheet -1", t.wides(-1, 0, 1), LeftTown.BAD);
        Check.due("two of six come", t.wides(0, 0, 6), 2);
        widesAre(t, 5, 3, 7, 9);
        Check.due("from 4 on", t.wides(0, 4, 2), 2);
        widesAre(t, 8, 9, 7, 9);
        Check.due("what stood ahead came", t.wides(0, 5, 3), -12);
        widesAre(t, 9, 9, 7, 9);
        Check.due("from -1 on", t.wides(0, -1, 3), -12);
        Check.due("from far on", t.wides(0, Integer.MAX_VALUE, 3), -12);
        widesAre(t, 9, 9, 7, 9);
        t.sheet(1, 0, 20);
        for (int i = 0; i < 20; i++) {
            t.write(1, i, 256 + 1);
        }
        Check.due("streets that there are not", t.wides(1, 0, 20), 4);
        widesAre(t, 1, 1, 1, 1);
    }

    private static void widesAre(LeftTown t, int... due) {
        for (int s = 0; s < due.length; s++) {
            Check.due("wide of " + s, t.streetOf(s, 2), due[s]);
        }
    }

    private static void shelves() {
        LeftTown t = Check.star();
        Check.due("shelf(0, 0, 0, 2)", t.shelf(0, 0, 0, 2), 1);
        Check.due("no such turn", t.shelf(0, 0, 0, 3), LeftTown.NONE);
        Check.due("no such course", t.shelf(0, 0, 0, 20), LeftTown.NONE);
        Check.due("to 40", t.shelf(0, 0, 0, 40), LeftTown.BAD);
        Check.due("from -1", t.shelf(0, 0, -1, 0), LeftTown.BAD);
        Check.due("shelf 4", t.shelf(4, 0, 0, 2), LeftTown.BAD);
        Check.due("shelf -1", t.shelf(-1, 2, 0, 2), LeftTown.BAD);
        Check.due("what 3", t.shelf(0, 3, 0, 2), LeftTown.BAD);
        Check.due("what -1", t.shelf(0, -1, 0, 2), LeftTown.BAD);
        Check.due("sheet 4", t.shelf(0, 1, 4, 0), LeftTown.BAD);
        Check.due("sheet -1", t.shelf(0, 1, -1, 0), LeftTown.BAD);
        Check.due("it holds it still", t.taken(0, 1), 2);
        Check.due("nothing", t.shelf(0, 2, 99, 99), 1);
        Check.due("it holds nothing", t.taken(0, 1), -11);
        Check.due("nothing to be taken for a row", t.taken(0, 12), -11);
        Check.due("it need not be lawful", t.shelf(0, 0, 0, 8), 1);
        Check.due("right", t.taken(0, 4), 8);
        t.shut(4, true);
        Check.due("nothing at the time", t.taken(0, 4), -11);
        Check.due("nothing at the time, as a row", t.taken(0, 10), -11);
        t.shut(4, false);
        Check.due("there again", t.taken(0, 4), 8);
    }

    private static void rowsOnShelves() {
        LeftTown t = new LeftTown();
        t.sheet(1, 3, 7);
        Check.due("a row", t.shelf(2, 1, 1, 99), 1);
        Check.due("as longs", t.taken(2, 13), 7);
        Check.due("as ints", t.taken(2, 12), -13);
        Check.due("as a turn", t.taken(2, 0), -13);
        t.sheet(1, 0, 3);
        Check.due("it holds the row that was", t.taken(2, 13), 7);
        t.sheet(1, -1, 0);
        Check.due("also when the sheet is missing", t.taken(2, 13), 7);
        Check.due("a missing one", t.shelf(2, 1, 1, 0), 1);
        Check.due("nothing", t.taken(2, 13), -11);
        t.sheet(1, 4, 0);
        t.shelf(2, 1, 1, 0);
        Check.due("an empty row", t.taken(2, 14), 0);
        for (int as : new int[] {-1, 6, 9, 15, Integer.MIN_VALUE, Integer.MAX_VALUE}) {
            Check.due("as " + as, t.taken(2, as), LeftTown.BAD);
        }
        Check.due("taken(4, 0)", t.taken(4, 0), LeftTown.BAD);
        Check.due("taken(-1, 0)", t.taken(-1, 0), LeftTown.BAD);
    }

    private static void taken() {
        LeftTown t = Check.star();
        int[] to = {2, 4, 6, 8, 1};
        String[] under = {"01", "02", "023", "04", "045"};
        for (int i = 0; i < 5; i++) {
            t.shelf(1, 0, 0, to[i]);
            for (int as = 0; as <= 5; as++) {
                boolean is = under[i].indexOf('0' + as) >= 0;
                Check.due("a " + under[i] + " as " + as, t.taken(1, as), is ? to[i] : -13);
            }
            Check.due("as bytes", t.taken(1, 10), -13);
        }
        t.shelf(1, 0, 9, 2);
        Check.due("40 times from", t.taken(1, 0), 40 * 9 + 2);
    }

    private static void act(int to, int[] due, String... traces) {
        LeftTown t = Check.star();
        t.shelf(3, 0, 0, to);
        for (int act = 0; act < 4; act++) {
            Check.due("act " + act + " of 0 to " + to, t.act(3, act, 100), due[act]);
            String[] bodies = traces[act].split(" ");
            Check.due("how many bodies", t.many(7), bodies.length);
            for (int i = 0; i < bodies.length; i++) {
                Check.due("body " + i, t.trace(i), Integer.parseInt(bodies[i]));
            }
            Check.due("behind the last", t.trace(bodies.length), LeftTown.NONE);
        }
    }

    private static void acts() {
        act(2, new int[] {306, 612, 50, 612}, "20 10", "11 20 10", "12", "13 11 20 10");
        act(4, new int[] {104, 204, 25, 204}, "10", "30 11 10", "12", "13 30 11 10");
        act(6, new int[] {106, 206, 16, 206}, "50 10", "30 11 50 10", "12", "51 13 30 11 50 10 12");
        act(8, new int[] {108, 216, 12, 216}, "10", "11 10", "40 12", "13 11 10");
        act(1, new int[] {101, -202, 102, -202}, "10", "60 11 10", "61 40 12 10", "13 60 11 10");
        LeftTown t = Check.star();
        t.shelf(0, 0, 3, 6);
        Check.due("turns wraps", t.act(0, 0, Integer.MAX_VALUE), Integer.MAX_VALUE + 6);
        Check.due("goes wraps", t.act(0, 1, 0x40000000), (0x40000000 + 6) * 2);
        Check.due("x + 1 wraps", t.act(0, 2, Integer.MAX_VALUE), Integer.MIN_VALUE / 3);
        Check.due("tells by n", t.act(0, 3, 7), (7 + 6) * 2 ^ 3);
        t.shelf(0, 0, 9, 6);
        Check.due("sharp or not", t.turn(9, 6), 2);
        Check.due("cut towards 0", t.act(0, 2, 7), -2);
        Check.due("cut towards 0", t.act(0, 2, -7), 2);
        t.shelf(0, 0, 5, 2);
        Check.due("left", t.turn(5, 2), 2);
        Check.due("left, tells by n", t.act(0, 3, 7), (7 + 2) * 2 - 2 ^ 5);
        t.crossing(8, 8);
        t.street(1, 6, 1, false);
        t.shelf(0, 0, 11, 2);
        Check.due("sharp", t.turn(11, 2), 3);
        Check.due("sharp, turns", t.act(0, 0, 7), 7 + 2 ^ 11);
        Check.due("sharp, tells and sees", t.act(0, 3, 7), ((7 + 2 ^ 11) * 2 - 2 ^ 11) + 11 / (2 - 11));
        t.shelf(0, 0, 3, 2);
        Check.due("by -1", t.act(0, 2, Integer.MAX_VALUE), Integer.MIN_VALUE + (3 + 2));
        Check.due("sees of round", t.act(0, 2, 5), -6 + (3 + 2));
    }

    private static void noActs() {
        LeftTown t = Check.star();
        t.sheet(0, 0, 4);
        t.shelf(0, 0, 0, 2);
        t.shelf(1, 1, 0, 0);
        int[][] calls = {{4, 0}, {-1, 0}, {0, 4}, {0, -1}, {1, 0}, {2, 0}};
        for (int[] c : calls) {
            t.act(0, 0, 1);
            Check.due("a trace", t.many(7), 2);
            Check.due("act(" + c[0] + ", " + c[1] + ")", t.act(c[0], c[1], 9), 0);
            Check.due("no trace", t.many(7), 0);
            Check.due("no trace", t.trace(0), LeftTown.NONE);
        }
        t.act(0, 0, 1);
        t.shut(0, true);
        Check.due("nothing at the time", t.act(0, 0, 1), 0);
        Check.due("no trace", t.many(7), 0);
    }

    private static void traces() {
        LeftTown t = Check.star();
        Check.due("none yet", t.trace(0), LeftTown.NONE);
        t.shelf(0, 0, 0, 6);
        t.act(0, 3, 1);
        t.shelf(0, 2, 0, 0);
        t.shut(0, true);
        Check.due("it stays till the next act", t.trace(2), 30);
        Check.due("trace(-1)", t.trace(-1), LeftTown.NONE);
        Check.due("trace(7)", t.trace(7), LeftTown.NONE);
        Check.due("trace(30)", t.trace(30), LeftTown.NONE);
    }
}
