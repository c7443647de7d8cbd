/** Promises 9 to 12: THE TAPE, THE LAW, TURNS and whether they may be gone. */
public final class LawTest {
    public static void main(String[] args) {
        tape();
        faults();
        kindsOfTurns();
        mayWithoutClauses();
        mayByWidth();
        mayByClauses();
        conditions();
        facts();
        Check.end();
    }

    private static void tape() {
        LeftTown t = new LeftTown();
        Check.due("feed n 0", t.feed(0, 0), LeftTown.BAD);
        Check.due("feed n 9", t.feed(0, 9), LeftTown.BAD);
        Check.due("feed n -1", t.feed(0, -1), LeftTown.BAD);
        for (int i = 1; i <= 25; i++) {
            Check.due("feed 8", t.feed(0x2020202020202020L, 8), 8 * i);
        }
        Check.due("feed over 200", t.feed(0, 1), LeftTown.FULL);
        Check.due("bad comes ahead of full", t.feed(0, 9), LeftTown.BAD);
        Check.due("many(6)", t.many(6), 200);
        Check.due("only blanks", t.law(), 0);
        Check.due("used up", t.many(6), 0);
        for (int i = 1; i <= 24; i++) {
            t.feed(0x2020202020202020L, 8);
        }
        Check.due("195", t.feed(0x202020L, 3), 195);
        Check.due("6 more are too many", t.feed(0x2020202020L, 6), LeftTown.FULL);
        Check.due("5 more are not", t.feed(0x2020202020L, 5), 200);
        Check.due("law", t.law(), 0);
        Check.due("the lowest first, the rest away", t.feed(0x78786e6fL, 2), 2);
        Check.due("law", t.law(), -102);
    }

    private static void fault(String text, int at) {
        LeftTown t = new LeftTown();
        Check.law(t, "on; left;");
        Check.due("'" + text + "'", Check.law(t, text), -100 - at);
        Check.due("'" + text + "' leaves THE LAW", t.many(4), 2);
        Check.due("'" + text + "' uses up THE TAPE", t.many(6), 0);
    }

    private static void fine(String text, int clauses) {
        LeftTown t = new LeftTown();
        Check.due("'" + text + "'", Check.law(t, text), clauses);
        Check.due("'" + text + "' many(4)", t.many(4), clauses);
    }

    private static void faults() {
        fine("", 0);
        fine("  on  ;  ", 1);
        fine("on;left;sharp;right;round;turn;", 6);
        fine("on if 0<9999and wide=1or not not was>2;", 1);
        fine("on if(((1<2)));", 1);
        fine("on if (1<2) and ((1<2) or ((1<2)));", 1);
        fine("on if 0001=1;turn;turn;turn;turn;turn;turn;turn;", 8);
        fine("on if1<2;", 1);
        fault("turn;turn;turn;turn;turn;turn;turn;turn; on;", 41);
        fault("turn;turn;turn;turn;turn;turn;turn;turn; 7", 41);
        fault("on", 2);
        fault("on  ", 4);
        fault("on if", 5);
        fault("onif 1<2;", 0);
        fault("On;", 0);
        fault("onz;", 0);
        fault("on;az;", 3);
        fault("on 09a;", 3);
        fault(";", 0);
        fault("on;;", 3);
        fault("on 1;", 3);
        fault("on if;", 5);
        fault("on if 1;", 7);
        fault("on if 1<;", 8);
        fault("on if 1<2", 9);
        fault("on if 1<2 3", 10);
        fault("on if 1<2<3;", 9);
        fault("on if 1<=2;", 8);
        fault("on if wides<2;", 6);
        fault("on if turn<2;", 6);
        fault("on if 12345<2;", 6);
        fault("on if 00001<2;", 6);
        fault("on if 2<12345;", 8);
        fault("on 12345;", 3);
        fault("on if ((((1<2))));", 9);
        fault("on if (1<2;", 10);
        fault("on if (1<2));", 11);
        fault("on if (1<2", 10);
        fault("on if ();", 7);
        fault("on if not;", 9);
        fault("on if not", 9);
        fault("on if 1<2 not 1<2;", 10);
        fault("on if 1<2 and;", 13);
        fault("on if 1<2 or or 1<2;", 13);
        fault("on if 1<2 and or 1<2;", 14);
        fault("on if (1) < 2;", 8);
        fault("on if\t1<2;", 5);
        fault("on\n;", 2);
        fault("on; \u00ff", 4);
        fault("on;\u0000", 3);
        fault("or;", 0);
        fault("on or;", 3);
        fault("walk ; on ;", 0);
        fault("on if abcdefghijklmnopqrstuvwxyz = 1;", 6);
    }

    private static void kindsOfTurns() {
        LeftTown t = Check.star();
        Check.due("on", t.turn(0, 2), 1);
        Check.due("left", t.turn(0, 4), 2);
        Check.due("sharp", t.turn(0, 6), 3);
        Check.due("right", t.turn(0, 8), 4);
        Check.due("round", t.turn(0, 1), 5);
        Check.due("right, backwards, stays right", t.turn(3, 6), 4);
        Check.due("right though behind", t.turn(5, 6), 4);
        Check.due("no turn onto itself", t.turn(0, 0), LeftTown.NONE);
        Check.due("ends elsewhere", t.turn(0, 3), LeftTown.NONE);
        Check.due("no such street", t.turn(0, 10), LeftTown.NONE);
        Check.due("turn(0, 39)", t.turn(0, 39), LeftTown.NONE);
        Check.due("turn(0, 40)", t.turn(0, 40), LeftTown.BAD);
        Check.due("turn(40, 0)", t.turn(40, 0), LeftTown.BAD);
        Check.due("turn(-1, 0)", t.turn(-1, 0), LeftTown.BAD);
        Check.due("turn(0, -1)", t.turn(0, -1), LeftTown.BAD);
        t.shut(1, true);
        Check.due("onto a shut street", t.turn(0, 2), LeftTown.NONE);
        Check.due("from a shut street", t.turn(3, 4), LeftTown.NONE);
        t.crossing(6, 4);
        t.street(1, 6, 1, true);
        t.street(6, 1, 1, true);
        Check.due("on, another street", t.turn(0, 10), 1);
        Check.due("round, another street", t.turn(10, 12), 5);
        Check.due("not the other way", t.turn(0, 11), LeftTown.NONE);
    }

    private static void mayRow(LeftTown t, String law, int[] due) {
        int[] to = {2, 4, 6, 8, 1};
        String[] names = {"on", "left", "sharp", "right", "round"};
        for (int i = 0; i < 5; i++) {
            Check.due("'" + law + "': " + names[i], t.may(0, to[i], 0), due[i]);
        }
    }

    private static void mayWithoutClauses() {
        LeftTown t = Check.star();
        mayRow(t, "", new int[] {1, 1, 1, 0, 0});
        Check.due("may NONE", t.may(0, 3, 0), LeftTown.NONE);
        Check.due("may(0, 0)", t.may(0, 0, 0), LeftTown.NONE);
        Check.due("may width 10", t.may(0, 2, 10), LeftTown.BAD);
        Check.due("may width -1", t.may(0, 2, -1), LeftTown.BAD);
        Check.due("bad comes ahead of none", t.may(0, 3, 10), LeftTown.BAD);
        Check.due("may(40, 2)", t.may(40, 2, 0), LeftTown.BAD);
        Check.due("may(0, -1)", t.may(0, -1, 0), LeftTown.BAD);
        t.shut(1, true);
        Check.due("may, shut", t.may(0, 2, 0), LeftTown.NONE);
        Check.due("may, from shut", t.may(3, 4, 0), LeftTown.NONE);
    }

    private static void mayByWidth() {
        LeftTown t = Check.star();
        Check.due("as wide as both", t.may(0, 2, 5), 1);
        Check.due("wider than the first", t.may(0, 2, 6), 0);
        Check.due("the second", t.may(4, 1, 5), LeftTown.NONE);
        t.widen(0, 9);
        Check.due("as wide as the second", t.may(0, 2, 6), 1);
        Check.due("wider than the second", t.may(0, 2, 7), 0);
        Check.due("sharp on foot", t.may(0, 6, 0), 1);
        Check.due("sharp with a cart", t.may(0, 6, 1), 0);
        Check.law(t, "sharp;");
        Check.due("sharp with a cart, though the law tells it", t.may(0, 6, 1), 0);
        Check.due("sharp on foot by law", t.may(0, 6, 0), 1);
    }

    private static void mayByClauses() {
        LeftTown t = Check.star();
        String[] laws = {"turn;", "on;", "left;", "sharp;", "right;", "round;", "on if 1>1;", "sharp; round;"};
        int[][] due = {{1, 1, 1, 1, 1}, {1, 0, 0, 0, 0}, {0, 1, 1, 0, 0}, {0, 0, 1, 0, 0},
            {0, 0, 0, 1, 1}, {0, 0, 0, 0, 1}, {0, 0, 0, 0, 0}, {0, 0, 1, 0, 1}};
        for (int i = 0; i < laws.length; i++) {
            Check.law(t, laws[i]);
            mayRow(t, laws[i], due[i]);
        }
        Check.law(t, "");
        mayRow(t, "", new int[] {1, 1, 1, 0, 0});
    }

    private static void cond(String cond, int due) {
        LeftTown t = Check.star();
        t.day(3);
        Check.due("'" + cond + "' is read", Check.law(t, "turn if " + cond + ";"), 1);
        Check.due("'" + cond + "'", t.may(0, 4, 2), due);
    }

    private static void conditions() {
        cond("1 < 2", 1);
        cond("2 < 2", 0);
        cond("2 = 2", 1);
        cond("2 > 2", 0);
        cond("9999 > 9998", 1);
        cond("not 1 < 2", 0);
        cond("not not 1 < 2", 1);
        cond("not not not 1 < 2", 0);
        cond("1<2 or 1>2 and 1>2", 1);
        cond("(1<2 or 1>2) and 1>2", 0);
        cond("1>2 and 1>2 or 1<2", 1);
        cond("not 1>2 and 1>2", 0);
        cond("not (1>2 and 1>2)", 1);
        cond("not (not (1<2) or not (1<2 and (1>2)))", 0);
        cond("1<2 and 1<2 and 1>2 or 1>2 or 1<2 and not 1>2", 1);
        cond("1>2 or (1<2 and (1>2 or (1>2 or not 1>2 and 1<2) and 1<2))", 1);
        StringBuilder longest = new StringBuilder("1>1");
        for (int i = 0; i < 37; i++) {
            longest.append("or1>1");
        }
        cond(longest.toString(), 0);
        longest.setCharAt(longest.length() - 2, '=');
        cond(longest.toString(), 1);
    }

    private static void facts() {
        cond("wide = 7", 1);
        cond("was = 5", 1);
        cond("long = 4", 1);
        cond("day = 3", 1);
        cond("width = 2", 1);
        cond("place = 1", 1);
        cond("wide > was", 1);
        cond("place < width and width < day and day < long and long < was", 1);
        LeftTown t = Check.star();
        Check.law(t, "turn if place = 0;");
        Check.due("place is where it turns", t.may(1, 0, 0), 1);
        Check.due("place is not the end", t.may(0, 1, 0), 0);
        Check.law(t, "on if day = 6; turn if width > 3 and wide > 6;");
        Check.due("no clause holds", t.may(0, 2, 0), 0);
        t.day(6);
        Check.due("the first holds", t.may(0, 2, 0), 1);
        t.day(5);
        Check.due("the second holds", t.may(0, 4, 4), 1);
        Check.due("the second, too thin", t.may(0, 4, 3), 0);
        t.widen(2, 6);
        Check.due("the second, less wide", t.may(0, 4, 4), 0);
    }
}
