/** Where several refusals are due, the first that the document names is told. */
public final class OrderTest {
    private static final int BAD = LeftTown.BAD, FULL = LeftTown.FULL, NONE = LeftTown.NONE, STATE = LeftTown.STATE;

    public static void main(String[] args) {
        town();
        turns();
        walkers();
        ways();
        rows();
        sheets();
        shelves();
        Check.end();
    }

    private static void town() {
        LeftTown t = new LeftTown();
        for (int i = 0; i < 12; i++) {
            t.crossing(i % 6, i / 6);
        }
        Check.due("BAD, FULL", t.crossing(0, 10), BAD);
        Check.due("BAD, FULL", t.crossing(-1, 0), BAD);
        Check.due("FULL, STATE", t.crossing(0, 0), FULL);
        for (int i = 0; i < 20; i++) {
            t.street(0, 1, 1, false);
        }
        Check.due("FULL", t.street(0, 1, 9, false), FULL);
        Check.due("BAD (a), FULL", t.street(12, 1, 9, false), BAD);
        Check.due("BAD (b), FULL", t.street(0, 12, 9, false), BAD);
        Check.due("BAD (the same twice), FULL", t.street(1, 1, 9, false), BAD);
        Check.due("BAD (wide), FULL", t.street(0, 1, 10, false), BAD);
    }

    private static void turns() {
        LeftTown t = Check.square();
        Check.feed(t, " ".repeat(200));
        Check.due("FULL", t.feed(0, 8), FULL);
        Check.due("BAD, FULL", t.feed(0, 9), BAD);
        Check.due("BAD, FULL", t.feed(0, 0), BAD);
        Check.due("NONE", t.turn(39, 39), NONE);
        Check.due("BAD, NONE", t.turn(39, 40), BAD);
        Check.due("BAD, NONE", t.turn(40, 39), BAD);
        Check.due("NONE", t.may(39, 39, 9), NONE);
        Check.due("BAD (to), NONE", t.may(39, 40, 9), BAD);
        Check.due("BAD (from), NONE", t.may(-1, 39, 9), BAD);
        Check.due("BAD (width), NONE", t.may(39, 39, 10), BAD);
        Check.due("BAD (width), may not", t.may(0, 1, 10), BAD);
    }

    private static void walkers() {
        LeftTown t = Check.square();
        for (int w = 0; w < 4; w++) {
            t.walker(0, 3);
        }
        Check.due("FULL", t.walker(0, 3), FULL);
        Check.due("BAD (too wide), FULL", t.walker(0, 4), BAD);
        Check.due("BAD (no COURSE), FULL", t.walker(7, 0), BAD);
        Check.due("BAD (width), FULL", t.walker(6, 10), BAD);
        Check.due("NONE", t.go(0, 6), NONE);
        Check.due("BAD (w), NONE", t.go(4, 6), BAD);
        Check.due("BAD (w), STATE", t.go(4, 1), BAD);
        Check.due("BAD (to), NONE", t.go(0, 40), BAD);
        Check.due("STATE", t.go(0, 1), STATE);
        t.widen(0, 1);
        Check.due("NONE, STATE", t.go(0, 6), NONE);
        t.shut(1, true);
        Check.due("NONE, since it is no COURSE now", t.go(0, 2), NONE);
        t.shut(1, false);
        Check.due("STATE, since his STREET is too narrow", t.go(0, 2), STATE);
    }

    private static void ways() {
        LeftTown t = Check.square();
        t.crossing(9, 9);
        Check.due("NONE", t.far(0, 4, 9), NONE);
        Check.due("BAD (width), NONE", t.far(0, 4, 10), BAD);
        Check.due("BAD (course), NONE", t.far(7, 4, 9), BAD);
        Check.due("BAD (width), NONE", t.first(0, 4, 10), BAD);
        Check.due("BAD (course), NONE", t.first(7, 4, 9), BAD);
        Check.due("BAD (width), FAR is 0", t.first(0, 1, 10), BAD);
        Check.due("NONE", t.free(0, 4), NONE);
        Check.due("BAD, NONE", t.free(4, 5), BAD);
        Check.due("NONE", t.loop(1, 0), NONE);
        Check.due("BAD, NONE", t.loop(1, 10), BAD);
        Check.due("NONE", t.opened(9), NONE);
        Check.due("BAD, NONE", t.opened(10), BAD);
        Check.due("NONE", new LeftTown().worst(9), NONE);
        Check.due("BAD, NONE", new LeftTown().worst(10), BAD);
        t.walker(1, 0);
        t.walker(3, 0);
        Check.due("NONE", t.meet(0, 1, 0), NONE);
        Check.due("BAD (what), NONE", t.meet(0, 1, 2), BAD);
        Check.due("BAD (v), NONE", t.meet(2, 1, 0), BAD);
        Check.due("BAD (w), NONE", t.meet(0, 2, 0), BAD);
    }

    private static void rows() {
        LeftTown t = Check.square();
        t.crossing(9, 9);
        Check.due("NONE", t.prove(0, 4), NONE);
        Check.due("BAD (c), NONE", t.prove(1, 5), BAD);
        Check.due("BAD (course), NONE", t.prove(7, 4), BAD);
        t.prove(0, 0);
        Check.due("BAD, a ROW that isn't right", t.judge(7), BAD);
        Check.due("a ROW that isn't right", t.judge(6), 1);
    }

    private static void sheets() {
        LeftTown t = new LeftTown();
        Check.due("-14", t.sheet(0, 0, -1), -14);
        Check.due("BAD (sheet), -14", t.sheet(4, 0, -1), BAD);
        Check.due("BAD (sort), -14", t.sheet(0, 5, -1), BAD);
        Check.due("BAD (sort), -14", t.sheet(0, -2, -1), BAD);
        Check.due("BAD (sheet) though missing is asked", t.sheet(4, -1, 0), BAD);
        Check.due("-11, -12", t.write(0, -1, 0), -11);
        Check.due("BAD, -11, -12", t.write(4, -1, 0), BAD);
        Check.due("-11, -12", t.item(0, 0, -1), -11);
        Check.due("BAD (sort), -11, -12", t.item(0, 5, -1), BAD);
        Check.due("BAD (sheet), -11, -12", t.item(4, 0, -1), BAD);
        Check.due("-11, -12", t.wides(0, -1, 1), -11);
        Check.due("BAD (n), -11", t.wides(0, 0, 21), BAD);
        Check.due("BAD (sheet), -11", t.wides(4, 0, 1), BAD);
        t.sheet(0, 1, 2);
        Check.due("-13, -12", t.item(0, 0, 2), -13);
        Check.due("BAD (sort), -13", t.item(0, 5, 2), BAD);
        Check.due("-13, -12", t.wides(0, 2, 1), -13);
        Check.due("-13 with n 0", t.wides(0, 2, 0), -13);
        Check.due("BAD (n), -13", t.wides(0, 2, -1), BAD);
        t.sheet(0, 0, 2);
        Check.due("BAD (n), -12", t.wides(0, 2, 21), BAD);
        Check.due("-12", t.wides(0, 2, 20), -12);
    }

    private static void shelves() {
        LeftTown t = Check.square();
        Check.due("NONE", t.shelf(0, 0, 0, 39), NONE);
        Check.due("BAD (shelf), NONE", t.shelf(4, 0, 0, 39), BAD);
        Check.due("BAD (to), NONE", t.shelf(0, 0, 39, 40), BAD);
        Check.due("BAD (from), NONE", t.shelf(0, 0, -1, 39), BAD);
        Check.due("BAD (what), NONE", t.shelf(0, 3, 0, 39), BAD);
        Check.due("-11", t.taken(0, 0), -11);
        Check.due("BAD (shelf), -11", t.taken(4, 0), BAD);
        Check.due("BAD (as), -11", t.taken(0, 6), BAD);
        t.shelf(0, 0, 0, 2);
        Check.due("-13", t.taken(0, 1), -13);
        Check.due("BAD (as), -13", t.taken(0, 15), BAD);
        t.sheet(0, 0, 1);
        t.shelf(0, 1, 0, 0);
        Check.due("-13, a row as a TURN", t.taken(0, 0), -13);
        Check.due("BAD (as), -13", t.taken(0, -1), BAD);
    }
}
