import java.util.ArrayList;
import java.util.List;
import java.util.function.ToIntFunction;

/** A refused call changes nothing that another call tells (but that law() uses THE TAPE up, and act() ends THE TRACE). */
public final class RefusalTest {
    private static final int BAD = LeftTown.BAD, FULL = LeftTown.FULL, NONE = LeftTown.NONE, STATE = LeftTown.STATE;
    private static final int[] WRONG = {-1, 40, Integer.MIN_VALUE, Integer.MAX_VALUE};

    public static void main(String[] args) {
        town();
        fullTown();
        turns();
        walkers();
        ways();
        rows();
        sheets();
        shelves();
        kept();
        lawUsesUp();
        widesComeAhead();
        actsEndTheTrace();
        Check.end();
    }

    /** A town with some of all: STREET 4 is shut, WALKER 1 has come some miles, another town is kept. */
    private static LeftTown rich() {
        LeftTown t = Check.square();
        t.crossing(9, 9);
        t.keep();
        t.street(0, 2, 4, false);
        t.walker(0, 0);
        t.walker(2, 2);
        t.go(1, 4);
        t.day(4);
        Check.law(t, "left; on if day = 4;");
        t.shut(4, true);
        t.prove(0, 0);
        t.alterRow(2, 1, -7);
        for (int i = 0; i < 3; i++) {
            t.sheet(i, i == 2 ? 4 : i, 3);
            t.write(i, 1, 300);
        }
        t.shelf(0, 0, 0, 2);
        t.shelf(1, 1, 1, 0);
        t.shelf(2, 0, 0, 1);
        t.act(2, 3, 5);
        Check.feed(t, "round; on");
        return t;
    }

    /** Some 50 calls more make all that can be full so. */
    private static LeftTown full() {
        LeftTown t = rich();
        for (int c = 5; c < 12; c++) {
            t.crossing(c - 5, 7);
        }
        for (int s = 5; s < 20; s++) {
            t.street(s % 12, (s + 5) % 12, 3, s % 2 == 0);
        }
        t.walker(0, 1);
        t.walker(1, 3);
        Check.feed(t, " ".repeat(191));
        return t;
    }

    /** What calls tell of an object, some 330 answers; those that change it come last. */
    private static List<Integer> told(LeftTown t) {
        List<Integer> all = new ArrayList<>();
        for (int what = 0; what <= 7; what++) {
            all.add(t.many(what));
        }
        tellTown(t, all);
        for (int i = 0; i < t.many(5); i++) {
            for (int what = 0; what < 3; what++) {
                all.add(t.row(i, what));
            }
        }
        tellHost(t, all);
        all.add(t.day(0));
        all.add(t.law());
        all.add(t.may(0, 1, 0));
        all.add(t.again());
        tellTown(t, all);
        all.add(t.day(0));
        return all;
    }

    private static void tellTown(LeftTown t, List<Integer> all) {
        for (int c = 0; c < 13; c++) {
            all.add(t.crossingOf(c, 0));
            all.add(t.crossingOf(c, 1));
        }
        for (int s = 0; s < 21; s++) {
            for (int what = 0; what < 6; what += s < 6 ? 1 : 2) {
                all.add(t.streetOf(s, what));
            }
        }
        for (int w = 0; w < 4; w++) {
            for (int what = 0; what < 3; what++) {
                all.add(t.walkerOf(w, what));
            }
        }
        for (int to = 0; to < 4; to++) {
            all.add(t.may(0, to, 0));
        }
    }

    private static void tellHost(LeftTown t, List<Integer> all) {
        for (int i = 0; i < 4; i++) {
            for (int sort = 0; sort <= 4; sort++) {
                all.add(t.item(i, sort, 1));
                all.add(t.taken(i, 10 + sort));
            }
            all.add(t.taken(i, 0));
            all.add(t.item(i, 0, 2));
            all.add(t.write(i, 3, 0));
        }
        for (int i = 0; i < 5; i++) {
            all.add(t.trace(i));
        }
    }

    private static void same(String call, int refusal, LeftTown with, LeftTown without, ToIntFunction<LeftTown> made) {
        Check.due(call, made.applyAsInt(with), refusal);
        List<Integer> due = told(without);
        Check.isTrue(call + " changes nothing", told(with).equals(due));
    }

    private static void refused(String call, int refusal, ToIntFunction<LeftTown> made) {
        same(call, refusal, rich(), rich(), made);
    }

    private static void refusedFull(String call, int refusal, ToIntFunction<LeftTown> made) {
        same(call + ", full", refusal, full(), full(), made);
    }

    private static void town() {
        for (int v : new int[] {-1, 10, Integer.MIN_VALUE, Integer.MAX_VALUE}) {
            refused("crossing(" + v + ", 1)", BAD, t -> t.crossing(v, 1));
            refused("crossing(1, " + v + ")", BAD, t -> t.crossing(1, v));
            refused("widen(0, " + v + ")", BAD, t -> t.widen(0, v));
            refused("street(0, 1, " + v + ", false)", BAD, t -> t.street(0, 1, v, false));
            refused("day(" + v + ")", BAD, t -> t.day(v));
        }
        refused("crossing(4, 0)", STATE, t -> t.crossing(4, 0));
        for (int v : new int[] {-1, 5, 12, 20, Integer.MIN_VALUE, Integer.MAX_VALUE}) {
            refused("crossingOf(" + v + ", 0)", BAD, t -> t.crossingOf(v, 0));
            refused("street(" + v + ", 0, 1, true)", BAD, t -> t.street(v, 0, 1, true));
            refused("street(0, " + v + ", 1, true)", BAD, t -> t.street(0, v, 1, true));
            refused("streetOf(" + v + ", 0)", BAD, t -> t.streetOf(v, 0));
            refused("shut(" + v + ", true)", BAD, t -> t.shut(v, true));
            refused("shut(" + v + ", false)", BAD, t -> t.shut(v, false));
            refused("widen(" + v + ", 1)", BAD, t -> t.widen(v, 1));
        }
        refused("crossingOf(0, 4)", BAD, t -> t.crossingOf(0, 4));
        refused("streetOf(0, 6)", BAD, t -> t.streetOf(0, 6));
        refused("street(1, 1, 1, false)", BAD, t -> t.street(1, 1, 1, false));
        refused("street(0, 1, 0, false)", BAD, t -> t.street(0, 1, 0, false));
        refused("widen(0, 0)", BAD, t -> t.widen(0, 0));
        refused("day(7)", BAD, t -> t.day(7));
        refused("many(8)", BAD, t -> t.many(8));
        refused("many(-1)", BAD, t -> t.many(-1));
    }

    private static void fullTown() {
        refusedFull("crossing(9, 8)", FULL, t -> t.crossing(9, 8));
        refusedFull("crossing(0, 0)", FULL, t -> t.crossing(0, 0));
        refusedFull("street(0, 1, 1, false)", FULL, t -> t.street(0, 1, 1, false));
        refusedFull("walker(0, 0)", FULL, t -> t.walker(0, 0));
        refusedFull("feed(32, 1)", FULL, t -> t.feed(32, 1));
        refusedFull("feed(0, 8)", FULL, t -> t.feed(0, 8));
        for (int n = 5; n <= 8; n++) {
            int bytes = n;
            same("feed of more than there is room for", FULL, nearlyFull(), nearlyFull(), t -> t.feed(0x2020202020202020L, bytes));
        }
    }

    private static LeftTown nearlyFull() {
        LeftTown t = rich();
        Check.feed(t, " ".repeat(187));
        return t;
    }

    private static void turns() {
        for (int v : new int[] {0, -1, 9, Integer.MIN_VALUE, Integer.MAX_VALUE}) {
            refused("feed(0, " + v + ")", BAD, t -> t.feed(0, v));
        }
        for (int v : WRONG) {
            refused("turn(" + v + ", 2)", BAD, t -> t.turn(v, 2));
            refused("turn(0, " + v + ")", BAD, t -> t.turn(0, v));
            refused("may(" + v + ", 2, 0)", BAD, t -> t.may(v, 2, 0));
            refused("may(0, " + v + ", 0)", BAD, t -> t.may(0, v, 0));
            refused("may(0, 2, " + v + ")", BAD, t -> t.may(0, 2, v));
        }
        refused("turn(0, 4)", NONE, t -> t.turn(0, 4));
        refused("may(0, 8, 0)", NONE, t -> t.may(0, 8, 0));
    }

    private static void walkers() {
        for (int v : WRONG) {
            refused("walker(" + v + ", 0)", BAD, t -> t.walker(v, 0));
            refused("walker(0, " + v + ")", BAD, t -> t.walker(0, v));
            refused("walkerOf(" + v + ", 0)", BAD, t -> t.walkerOf(v, 0));
            refused("walkerOf(0, " + v + ")", BAD, t -> t.walkerOf(0, v));
            refused("go(" + v + ", 2)", BAD, t -> t.go(v, 2));
            refused("go(0, " + v + ")", BAD, t -> t.go(0, v));
            refused("put(" + v + ", 2)", BAD, t -> t.put(v, 2));
            refused("put(0, " + v + ")", BAD, t -> t.put(0, v));
        }
        refused("walker on a shut STREET", BAD, t -> t.walker(8, 0));
        refused("walker too wide", BAD, t -> t.walker(0, 4));
        refused("walkerOf(2, 0)", BAD, t -> t.walkerOf(2, 0));
        refused("go where no TURN leads", NONE, t -> t.go(0, 4));
        refused("go onto a shut STREET", NONE, t -> t.go(1, 9));
        refused("go onto no STREET", NONE, t -> t.go(0, 39));
        refused("go where it may not be gone", STATE, t -> t.go(0, 1));
        refused("put on a shut STREET", BAD, t -> t.put(0, 8));
        refused("put on one too narrow", BAD, t -> {
            t.widen(0, 1);
            int answer = t.put(1, 0);
            t.widen(0, 3);
            return answer;
        });
    }

    private static void ways() {
        for (int v : WRONG) {
            refused("far(" + v + ", 0, 0)", BAD, t -> t.far(v, 0, 0));
            refused("far(0, " + v + ", 0)", BAD, t -> t.far(0, v, 0));
            refused("far(0, 0, " + v + ")", BAD, t -> t.far(0, 0, v));
            refused("first(" + v + ", 0, 0)", BAD, t -> t.first(v, 0, 0));
            refused("first(0, " + v + ", 0)", BAD, t -> t.first(0, v, 0));
            refused("first(0, 0, " + v + ")", BAD, t -> t.first(0, 0, v));
            refused("free(" + v + ", 0)", BAD, t -> t.free(v, 0));
            refused("free(0, " + v + ")", BAD, t -> t.free(0, v));
            refused("reach(" + v + ", 0)", BAD, t -> t.reach(v, 0));
            refused("reach(0, " + v + ")", BAD, t -> t.reach(0, v));
            refused("pairs(" + v + ")", BAD, t -> t.pairs(v));
            refused("never(" + v + ")", BAD, t -> t.never(v));
            refused("parts(" + v + ")", BAD, t -> t.parts(v));
            refused("loop(" + v + ", 0)", BAD, t -> t.loop(v, 0));
            refused("loop(0, " + v + ")", BAD, t -> t.loop(0, v));
            refused("worst(" + v + ")", BAD, t -> t.worst(v));
            refused("opened(" + v + ")", BAD, t -> t.opened(v));
            refused("meet(" + v + ", 0, 0)", BAD, t -> t.meet(v, 0, 0));
            refused("meet(0, " + v + ", 0)", BAD, t -> t.meet(0, v, 0));
            refused("meet(0, 1, " + v + ")", BAD, t -> t.meet(0, 1, v));
            refused("other(" + v + ")", BAD, t -> t.other(v));
        }
        refused("far to where no way leads", NONE, t -> t.far(0, 4, 0));
        refused("first to where no way leads", NONE, t -> t.first(0, 4, 0));
        refused("first at its end", NONE, t -> t.first(0, 1, 0));
        refused("free to where no way leads", NONE, t -> t.free(0, 4));
        refused("loop of one that has none", NONE, t -> t.loop(1, 0));
        refused("opened by a WIDTH that helps none", NONE, t -> {
            t.shut(4, false);
            int answer = t.opened(0);
            t.shut(4, true);
            return answer;
        });
        refused("meet(1, 1, 0)", BAD, t -> t.meet(1, 1, 0));
    }

    private static void rows() {
        for (int v : WRONG) {
            refused("prove(" + v + ", 0)", BAD, t -> t.prove(v, 0));
            refused("prove(0, " + v + ")", BAD, t -> t.prove(0, v));
            refused("judge(" + v + ")", BAD, t -> t.judge(v));
            refused("row(" + v + ", 0)", -9, t -> t.row(v, 0));
            refused("row(0, " + v + ")", -9, t -> t.row(0, v));
            refused("alterRow(" + v + ", 0, 5)", -9, t -> t.alterRow(v, 0, 5));
            refused("alterRow(0, " + v + ", 5)", -9, t -> t.alterRow(0, v, 5));
        }
        refused("alterRow(3, 0, 5)", -9, t -> t.alterRow(3, 0, 5));
        refused("alterRow(0, 3, 5)", -9, t -> t.alterRow(0, 3, 5));
        refused("prove from a shut STREET", BAD, t -> t.prove(8, 0));
        refused("prove where no way leads", NONE, t -> t.prove(0, 4));
        refused("judge, though a ROW isn't right", 3, t -> t.judge(0));
    }

    private static void sheets() {
        for (int v : WRONG) {
            refused("sheet(" + v + ", 0, 1)", BAD, t -> t.sheet(v, 0, 1));
            refused("write(" + v + ", 0, 1)", BAD, t -> t.write(v, 0, 1));
            refused("write(0, " + v + ", 1)", -12, t -> t.write(0, v, 1));
            refused("item(" + v + ", 0, 1)", BAD, t -> t.item(v, 0, 1));
            refused("item(0, " + v + ", 1)", BAD, t -> t.item(0, v, 1));
            refused("item(0, 0, " + v + ")", -12, t -> t.item(0, 0, v));
            refused("wides(" + v + ", 0, 1)", BAD, t -> t.wides(v, 0, 1));
            refused("wides(0, " + v + ", 1)", -12, t -> t.wides(0, v, 1));
            refused("wides(0, 0, " + v + ")", BAD, t -> t.wides(0, 0, v));
        }
        refused("sheet(0, 5, 1)", BAD, t -> t.sheet(0, 5, 1));
        refused("sheet(0, -2, 1)", BAD, t -> t.sheet(0, -2, 1));
        refused("sheet(0, 0, 41)", BAD, t -> t.sheet(0, 0, 41));
        refused("sheet(0, 0, -1)", -14, t -> t.sheet(0, 0, -1));
        refused("sheet(3, 0, -1)", -14, t -> t.sheet(3, 0, -1));
        refused("write(0, 3, 1)", -12, t -> t.write(0, 3, 1));
        refused("write(3, 0, 1)", -11, t -> t.write(3, 0, 1));
        refused("item(1, 0, 1)", -13, t -> t.item(1, 0, 1));
        refused("item(3, 0, 1)", -11, t -> t.item(3, 0, 1));
        refused("wides(1, 1, 1)", -13, t -> t.wides(1, 1, 1));
        refused("wides(3, 1, 1)", -11, t -> t.wides(3, 1, 1));
        refused("wides of items that are none", 0, t -> t.wides(0, 0, 3));
    }

    private static void shelves() {
        for (int v : WRONG) {
            refused("shelf(" + v + ", 0, 0, 2)", BAD, t -> t.shelf(v, 0, 0, 2));
            refused("shelf(0, " + v + ", 0, 1)", BAD, t -> t.shelf(0, v, 0, 1));
            refused("shelf(0, 0, " + v + ", 2)", BAD, t -> t.shelf(0, 0, v, 2));
            refused("shelf(0, 0, 0, " + v + ")", BAD, t -> t.shelf(0, 0, 0, v));
            refused("shelf(0, 1, " + v + ", 0)", BAD, t -> t.shelf(0, 1, v, 0));
            refused("taken(" + v + ", 0)", BAD, t -> t.taken(v, 0));
            refused("taken(0, " + v + ")", BAD, t -> t.taken(0, v));
            refused("trace(" + v + ")", NONE, t -> t.trace(v));
        }
        refused("a TURN that is none", NONE, t -> t.shelf(0, 0, 0, 4));
        refused("a TURN that is none, where a row is", NONE, t -> t.shelf(1, 0, 0, 8));
        refused("taken for another KIND", -13, t -> t.taken(0, 1));
        refused("taken for a row", -13, t -> t.taken(0, 10));
        refused("nothing taken", -11, t -> t.taken(3, 0));
        refused("trace(4)", NONE, t -> t.trace(4));
    }

    private static void kept() {
        same("again() where nothing is kept", NONE, Check.square(), Check.square(), t -> t.again());
    }

    private static void lawUsesUp() {
        LeftTown t = rich();
        Check.due("law() refused", t.law(), -109);
        Check.due("THE TAPE is used up", t.many(6), 0);
        LeftTown due = rich();
        due.law();
        Check.due("THE LAW stays", t.many(4), 2);
        Check.due("left by it", t.may(0, 2, 0), 1);
        Check.due("round by it", t.may(0, 1, 0), 0);
        Check.feed(t, "on");
        Check.due("nothing is left ahead of what comes", t.law(), -102);
        Check.isTrue("else nothing changed", told(t).equals(told(due)));
    }

    private static void widesComeAhead() {
        LeftTown t = rich();
        t.write(0, 1, 7);
        t.write(0, 2, 8);
        Check.due("wides() to a place outside", t.wides(0, 1, 3), -12);
        Check.due("the first came", t.streetOf(0, 2), 7);
        Check.due("the second came", t.streetOf(1, 2), 8);
        Check.due("no more came", t.streetOf(2, 2), 2);
        LeftTown due = rich();
        due.write(0, 1, 7);
        due.write(0, 2, 8);
        due.widen(0, 7);
        due.widen(1, 8);
        Check.isTrue("else nothing changed", told(t).equals(told(due)));
    }

    private static void actsEndTheTrace() {
        int[][] wrong = {{4, 0}, {-1, 0}, {0, 4}, {0, -1}, {1, 0}, {3, 0}};
        for (int[] w : wrong) {
            LeftTown t = rich();
            Check.due("a TRACE", t.many(7), 4);
            Check.due("act(" + w[0] + ", " + w[1] + ", 1)", t.act(w[0], w[1], 1), 0);
            Check.due("no TRACE", t.many(7), 0);
            List<Integer> is = told(t);
            LeftTown due = rich();
            due.act(3, 0, 0);
            Check.isTrue("else nothing changed", is.equals(told(due)));
        }
    }
}
