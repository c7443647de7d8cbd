/** Towns, tapes, laws, rows and sheets that are full: what is last is taken, and the next is not. */
public final class FullTest {
    private static final int BAD = LeftTown.BAD, FULL = LeftTown.FULL, NONE = LeftTown.NONE;
    private static final int[] X = {0, 3, 6, 9, 9, 9, 9, 6, 3, 0, 0, 0};
    private static final int[] Y = {0, 0, 0, 0, 3, 6, 9, 9, 9, 9, 6, 3};

    public static void main(String[] args) {
        crossings();
        streets();
        walkers();
        waysInAFullTown();
        waysFromTheLastCourse();
        tape();
        clauses();
        brackets();
        numbers();
        rows();
        items();
        wides();
        shelves();
        keptFull();
        Check.end();
    }

    /** 12 CROSSINGS in a ring, to the left; STREETS 0 to 11 round it, 12 to 18 as 0 to 6 once more, 19 from 10 to 11. */
    private static LeftTown ring() {
        LeftTown t = new LeftTown();
        for (int c = 0; c < 12; c++) {
            t.crossing(X[c], Y[c]);
        }
        for (int s = 0; s < 19; s++) {
            t.street(s % 12, (s + 1) % 12, 5, false);
        }
        t.street(10, 11, 9, false);
        return t;
    }

    private static void crossings() {
        LeftTown t = new LeftTown();
        for (int c = 0; c < 12; c++) {
            Check.due("crossing " + c, t.crossing(X[c], Y[c]), c);
            Check.due("its own place", t.crossing(X[c], Y[c]), c == 11 ? FULL : LeftTown.STATE);
        }
        Check.due("the thirteenth", t.crossing(5, 5), FULL);
        Check.due("crossingOf(11, 0)", t.crossingOf(11, 0), 0);
        Check.due("crossingOf(11, 1)", t.crossingOf(11, 1), 3);
        Check.due("crossingOf(12, 0)", t.crossingOf(12, 0), BAD);
        Check.due("many(0)", t.many(0), 12);
        Check.due("never by none", t.never(0), 4095);
        Check.due("street to the last", t.street(0, 11, 1, false), 0);
        Check.due("street from the last", t.street(11, 0, 1, false), 1);
        Check.due("street to one more", t.street(0, 12, 1, false), BAD);
        Check.due("street from one more", t.street(12, 0, 1, false), BAD);
    }

    private static void streets() {
        LeftTown t = ring();
        Check.due("many(1)", t.many(1), 20);
        Check.due("many(2)", t.many(2), 40);
        Check.due("the twenty-first", t.street(0, 1, 1, false), FULL);
        Check.due("the twenty-first, one way", t.street(0, 1, 1, true), FULL);
        Check.due("a shut one makes no room", t.shut(19, true) + t.street(0, 1, 1, false), 1 + FULL);
        Check.due("two COURSES less", t.many(2), 38);
        Check.due("streetOf(19, 5)", t.streetOf(19, 5), 1);
        Check.due("streetOf(20, 5)", t.streetOf(20, 5), BAD);
        Check.due("shut(20, false)", t.shut(20, false), BAD);
        Check.due("widen(19, 1)", t.widen(19, 1), 9);
        Check.due("widen(20, 1)", t.widen(20, 1), BAD);
        Check.due("COURSES that begin at 0", t.crossingOf(0, 2), 4 - 1);
        Check.due("COURSES that end at 1", t.crossingOf(1, 3), 4);
        LeftTown many = new LeftTown();
        many.crossing(0, 0);
        many.crossing(9, 9);
        for (int s = 0; s < 20; s++) {
            Check.due("twenty between the same two", many.street(0, 1, 9, true), s);
        }
        Check.due("all begin at 0", many.crossingOf(0, 2), 20);
        Check.due("none ends at 0", many.crossingOf(0, 3), 0);
        Check.due("all end at 1", many.crossingOf(1, 3), 20);
        Check.due("the longest STREET", many.streetOf(19, 4), 18);
        Check.due("one COURSE each", many.many(2), 20);
        Check.due("free", many.free(0, 1), 18);
        Check.due("not back", many.free(1, 0), NONE);
    }

    private static void walkers() {
        LeftTown t = ring();
        for (int w = 0; w < 4; w++) {
            Check.due("no such yet", t.walkerOf(w, 0), BAD);
            Check.due("walker " + w, t.walker(38, 9 - w), w);
        }
        Check.due("the fifth", t.walker(38, 0), FULL);
        Check.due("many(3)", t.many(3), 4);
        Check.due("walkerOf(3, 1)", t.walkerOf(3, 1), 6);
        Check.due("walkerOf(4, 1)", t.walkerOf(4, 1), BAD);
        Check.due("put(3, 39)", t.put(3, 39), 1);
        Check.due("put(4, 39)", t.put(4, 39), BAD);
        Check.due("go(4, 39)", t.go(4, 39), BAD);
        Check.due("meet(2, 3, 0): no way from 11 for 7, nor to it for 6", t.meet(2, 3, 0), NONE);
        Check.due("meet(3, 4, 0)", t.meet(3, 4, 0), BAD);
        Check.due("meet(4, 3, 0)", t.meet(4, 3, 0), BAD);
        Check.due("meet(1, 2, 0): both are at 11", t.meet(1, 2, 0), 11);
        Check.due("meet(1, 2, 1)", t.meet(1, 2, 1), 0);
    }

    private static void waysInAFullTown() {
        LeftTown t = ring();
        for (int c = 0; c < 12; c++) {
            Check.due("far(0, " + c + ", 0)", t.far(0, c, 0), 3 * ((c + 11) % 12));
            Check.due("free(1, " + c + ")", t.free(1, c), 3 * Math.min((c + 11) % 12, (13 - c) % 12));
            Check.due("first(0, " + c + ", 0)", t.first(0, c, 0), c == 1 ? NONE : 2);
        }
        Check.due("reach(0, 0)", t.reach(0, 0), 4095);
        // To the left each of 20 comes to all; to the right as far as the corner: 1, 2 or 3.
        Check.due("pairs(0)", t.pairs(0), 240 + 24 + 13 + 2);
        Check.due("pairs(5)", t.pairs(5), 240 + 24 + 13 + 2);
        Check.due("pairs(6)", t.pairs(6), 40);
        Check.due("never(0)", t.never(0), 0);
        Check.due("never(6)", t.never(6), 4095);
        Check.due("parts(0)", t.parts(0), 21);
        Check.due("parts(6)", t.parts(6), 40);
        Check.due("loop(0, 0)", t.loop(0, 0), 36);
        Check.due("worst(0)", t.worst(0), 33 - 3);
        Check.due("opened(0)", t.opened(0), NONE);
        Check.due("other(15)", t.other(15), 480);
        Check.due("other(0)", t.other(0), 40);
        t.shut(19, true);
        Check.due("opened(0), the last shut", t.opened(0), 19);
        t.shut(9, true);
        Check.due("opened(0), a needed one shut", t.opened(0), 9);
    }

    private static void waysFromTheLastCourse() {
        LeftTown t = ring();
        Check.due("turn(39, 38)", t.turn(39, 38), 5);
        Check.due("turn(38, 39)", t.turn(38, 39), 5);
        Check.due("turn(18, 38)", t.turn(18, 38), 1);
        Check.due("turn(39, 40)", t.turn(39, 40), BAD);
        Check.due("may(18, 38, 5)", t.may(18, 38, 5), 1);
        Check.due("may(18, 38, 6)", t.may(18, 38, 6), 0);
        Check.due("far(38, 10, 0)", t.far(38, 10, 0), 33);
        Check.due("far(39, 10, 0)", t.far(39, 10, 0), 0);
        Check.due("far(39, 9, 0)", t.far(39, 9, 0), 3);
        Check.due("far(39, 8, 0): right", t.far(39, 8, 0), NONE);
        Check.due("far(40, 8, 0)", t.far(40, 8, 0), BAD);
        Check.due("far(39, 11, 0)", t.far(39, 11, 0), NONE);
        Check.due("far(39, 12, 0)", t.far(39, 12, 0), BAD);
        Check.due("first(39, 9, 0)", t.first(39, 9, 0), 19);
        Check.due("first(18, 11, 0)", t.first(18, 11, 0), 20);
        t.shut(10, true);
        Check.due("first(18, 11, 0), the last is left", t.first(18, 11, 0), 38);
        Check.due("reach(39, 0)", t.reach(39, 0), 1536);
        Check.due("reach(40, 0)", t.reach(40, 0), BAD);
        Check.due("loop(38, 0)", t.loop(38, 0), 36);
        Check.due("loop(39, 0)", t.loop(39, 0), NONE);
        Check.due("loop(40, 0)", t.loop(40, 0), BAD);
        Check.due("prove(38, 10)", t.prove(38, 10), 11);
        Check.due("row(10, 1)", t.row(10, 1), 10);
        Check.due("row(10, 2)", t.row(10, 2), 33);
        Check.due("judge(38)", t.judge(38), 0);
        Check.due("judge(39)", t.judge(39), 1);
        Check.due("judge(40)", t.judge(40), BAD);
        Check.due("prove(40, 10)", t.prove(40, 10), BAD);
    }

    private static String blanks(int n) {
        return " ".repeat(n);
    }

    private static void tape() {
        LeftTown t = new LeftTown();
        Check.feed(t, blanks(196) + "on;");
        Check.due("199 bytes", t.many(6), 199);
        Check.due("two more", t.feed(0x2020, 2), FULL);
        Check.due("one more", t.feed(';', 1), 200);
        Check.due("and one", t.feed(' ', 1), FULL);
        Check.due("the last byte is the FAULT", t.law(), -299);
        Check.due("used up", t.many(6), 0);
        Check.due("room again", t.feed(0x3b6e6f, 3), 3);
        Check.due("law", t.law(), 1);
        Check.due("200 bytes, the last is the end of a CLAUSE", Check.law(t, blanks(197) + "on;"), 1);
        Check.due("200 bytes, and more must come", Check.law(t, blanks(198) + "on"), -300);
        Check.due("THE LAW stays", t.many(4), 1);
        Check.due("200 bytes, and a NAME that isn't", Check.law(t, "on;" + blanks(195) + "of"), -298);
        Check.due("a NAME of 200 letters", Check.law(t, "on".repeat(100)), -100);
        Check.due("a NUMBER of 200 digits", Check.law(t, "0".repeat(200)), -100);
        Check.due("200 blanks", Check.law(t, blanks(200)), 0);
        Check.due("are no CLAUSES", t.many(4), 0);
        for (int n = 1; n <= 8; n++) {
            Check.due("n bytes alone", t.feed(0x2020202020202020L, n), n);
            Check.due("used up", t.law(), 0);
        }
        Check.due("what is above n bytes is left out", t.feed(0xffffffffff3b6e6fL, 3), 3);
        Check.due("law", t.law(), 1);
        Check.due("the eighth byte", t.feed(0xff2020203b6e6f20L, 8), 8);
        Check.due("is the FAULT", t.law(), -107);
        Check.due("the lowest comes first", t.feed(0x203b6e6f203b6e6fL, 8), 8);
        Check.due("law", t.law(), 2);
    }

    private static void clauses() {
        LeftTown t = new LeftTown();
        for (int n = 0; n <= 8; n++) {
            Check.due(n + " CLAUSES", Check.law(t, "round;".repeat(n)), n);
            Check.due("many(4)", t.many(4), n);
        }
        Check.due("the ninth", Check.law(t, "round;".repeat(9)), -148);
        Check.due("the ninth, behind blanks", Check.law(t, "round;".repeat(8) + "   on;"), -151);
        Check.due("the ninth, not whole", Check.law(t, "round;".repeat(8) + "on"), -148);
        Check.due("the ninth is no KIND", Check.law(t, "round;".repeat(8) + "if"), -148);
        Check.due("no ninth, but an end", Check.law(t, "round;".repeat(8) + ";"), -148);
        Check.due("a fault in the eighth comes first", Check.law(t, "round;".repeat(7) + "on on;on;"), -145);
        Check.due("THE LAW stays", t.many(4), 8);
        LeftTown s = Check.star();
        Check.due("the eighth alone holds", Check.law(s, "on if 1>1;".repeat(7) + "right;"), 8);
        Check.due("right", s.may(0, 8, 0), 1);
        Check.due("on", s.may(0, 2, 0), 0);
        Check.due("the first alone holds", Check.law(s, "right;" + "on if 1>1;".repeat(7)), 8);
        Check.due("right", s.may(0, 8, 0), 1);
    }

    private static void brackets() {
        LeftTown t = new LeftTown();
        Check.due("one", Check.law(t, "on if (1<2);"), 1);
        Check.due("two", Check.law(t, "on if ((1<2));"), 1);
        Check.due("three", Check.law(t, "on if (((1<2)));"), 1);
        Check.due("four", Check.law(t, "on if ((((1<2))));"), -109);
        Check.due("four, not ended", Check.law(t, "on if (((("), -109);
        Check.due("three, not ended", Check.law(t, "on if ((("), -109);
        Check.due("three, one not ended", Check.law(t, "on if (((1<2));"), -114);
        Check.due("ended too often", Check.law(t, "on if (((1<2))));"), -115);
        Check.due("the fourth behind others", Check.law(t, "on if (1<2) and ((1<2) or ((1<2) and (1<2)));"), 1);
        Check.due("the fourth within", Check.law(t, "on if (1<2 and not (1<2 or (1<2 and not (1<2))));"), -140);
        Check.due("many, one behind the other", Check.law(t, "on if (1<2)" + "and(1<2)".repeat(20) + ";"), 1);
        Check.due("anew in the next CLAUSE", Check.law(t, "on if (((1<2)));on if (((1<2)));"), 2);
    }

    private static void numbers() {
        LeftTown t = new LeftTown();
        Check.due("one digit", Check.law(t, "on if 0=9;"), 1);
        Check.due("four digits", Check.law(t, "on if 9999=0000;"), 1);
        Check.due("five digits", Check.law(t, "on if 10000=0;"), -106);
        Check.due("five digits, right", Check.law(t, "on if 0=00000;"), -108);
        Check.due("five digits in place of a SIGN", Check.law(t, "on if 0 00000;"), -108);
        Check.due("two NUMBERS parted by a blank", Check.law(t, "on if 0=000 00;"), -112);
        LeftTown s = Check.star();
        Check.law(s, "on if 9999 > 9998; left if 0 > 0000; right if 10 = 0010; round if 9 < 10;");
        Check.due("9999 > 9998", s.may(0, 2, 0), 1);
        Check.due("0 > 0000", s.may(0, 4, 0), 0);
        Check.due("10 = 0010", s.may(0, 8, 0), 1);
        Check.due("9 < 10", s.may(0, 1, 0), 1);
    }

    /** A row of CROSSINGS gone to its end and back; only he who comes back may take the lane to 11. */
    private static LeftTown lane() {
        LeftTown t = new LeftTown();
        for (int i = 0; i < 10; i++) {
            t.crossing(i, 0);
        }
        t.crossing(9, 1);
        t.crossing(4, 5);
        for (int i = 0; i < 10; i++) {
            t.street(i, i + 1, 1 + i % 2, false);
        }
        t.street(1, 2, 9, true);
        t.street(2, 3, 9, true);
        t.street(3, 4, 9, true);
        t.street(4, 11, 9, true);
        Check.law(t, "turn if wide < 9 and not wide = was; turn if place = 10;"
            + "turn if wide = 9 and was = 9; turn if wide = 9 and place = 1 and was = 2;");
        return t;
    }

    private static void rows() {
        LeftTown t = lane();
        int[] from = {6, 4, 2, 0};
        int[] walk = {19, 20, 21, 22};
        for (int i = 0; i < 4; i++) {
            int kept = Math.min(20, walk[i]);
            Check.due("a walk of " + walk[i], t.prove(from[i], 11), kept);
            Check.due("many(5)", t.many(5), kept);
            Check.due("the last ROW tells FAR, if it is whole", t.row(kept - 1, 2) == t.far(from[i], 11, 0) ? 1 : 0, walk[i] <= 20 ? 1 : 0);
            Check.due("behind the last", t.row(kept, 0), -9);
            Check.due("behind the last", t.alterRow(kept, 0, 3), -9);
            Check.due("judge", t.judge(from[i]), 0);
            int was = t.alterRow(kept - 1, 1, 99);
            Check.due("judge the last", t.judge(from[i]), kept);
            Check.due("what stood there", t.alterRow(kept - 1, 1, was), 99);
        }
        Check.due("fewer ROWS in place of more", t.prove(0, 2), 1);
        Check.due("the others are no more", t.row(1, 0), -9);
    }

    private static void items() {
        LeftTown t = new LeftTown();
        for (int sort = 0; sort <= 4; sort++) {
            for (int n : new int[] {0, 1, 39, 40}) {
                Check.due("n items", t.sheet(sort % 4, sort, n), 1);
                Check.due("behind the last", t.item(sort % 4, sort, n), -12);
                Check.due("behind the last", t.write(sort % 4, n, 1), -12);
                Check.due("the last", t.item(sort % 4, sort, n - 1), n == 0 ? -12 : 0);
                Check.due("the last", t.write(sort % 4, n - 1, 1), n == 0 ? -12 : 1);
                Check.due("the last is written", t.item(sort % 4, sort, n - 1), n == 0 ? -12 : 1);
                t.shelf(0, 1, sort % 4, 0);
                Check.due("how many on a SHELF", t.taken(0, 10 + sort), n);
            }
            Check.due("41", t.sheet(sort % 4, sort, 41), BAD);
            Check.due("the row stays", t.item(sort % 4, sort, 39), 1);
        }
    }

    private static void wides() {
        LeftTown t = ring();
        t.sheet(0, 0, 40);
        for (int i = 0; i < 40; i++) {
            t.write(0, i, 1 + i % 9);
        }
        Check.due("20 from 0", t.wides(0, 0, 20), 20);
        Check.due("wide of 19", t.streetOf(19, 2), 2);
        Check.due("20 from 20", t.wides(0, 20, 20), 20);
        Check.due("wide of 0", t.streetOf(0, 2), 3);
        Check.due("wide of 19", t.streetOf(19, 2), 4);
        Check.due("20 from 21", t.wides(0, 21, 20), -12);
        Check.due("wide of 0 came", t.streetOf(0, 2), 4);
        Check.due("wide of 18 came", t.streetOf(18, 2), 4);
        Check.due("wide of 19 did not", t.streetOf(19, 2), 4);
        Check.due("19 from 21", t.wides(0, 21, 19), 19);
        Check.due("1 from 39", t.wides(0, 39, 1), 1);
        Check.due("wide of 0", t.streetOf(0, 2), 4);
        Check.due("1 from 40", t.wides(0, 40, 1), -12);
        Check.due("0 from 40", t.wides(0, 40, 0), 0);
        Check.due("21 from 0", t.wides(0, 0, 21), BAD);
    }

    private static void shelves() {
        LeftTown t = ring();
        for (int i = 0; i < 4; i++) {
            Check.due("shelf " + i, t.shelf(i, 0, 39 - i % 2, 38 + i % 2), 1);
        }
        Check.due("39 to 38", t.taken(2, 5), 39 * 40 + 38);
        Check.due("38 to 39", t.taken(3, 5), 38 * 40 + 39);
        Check.due("shelf 4", t.taken(4, 5), BAD);
        Check.due("39 to 40", t.shelf(3, 0, 39, 40), BAD);
        Check.due("40 to 39", t.shelf(3, 0, 40, 39), BAD);
        Check.due("turns", t.act(2, 0, 1), 39);
        Check.due("goes", t.act(2, 1, 1), -78);
        Check.due("sees", t.act(2, 2, 1), -2 + 39 + 38);
        Check.due("tells", t.act(2, 3, 1), -78 ^ 39);
    }

    private static void keptFull() {
        LeftTown t = ring();
        for (int w = 0; w < 4; w++) {
            t.walker(39, w);
        }
        Check.law(t, "on; left; sharp;" + "round if wide = 9 and long = 3;".repeat(5));
        t.day(6);
        t.keep();
        t.again();
        int[] due = {12, 20, 40, 4, 8};
        for (int what = 0; what < 5; what++) {
            Check.due("many(" + what + ")", t.many(what), due[what]);
        }
        Check.due("still full of CROSSINGS", t.crossing(5, 5), FULL);
        Check.due("still full of STREETS", t.street(0, 1, 1, true), FULL);
        Check.due("still full of WALKERS", t.walker(0, 0), FULL);
        Check.due("the last CROSSING", t.crossingOf(11, 1), 3);
        Check.due("the last STREET", t.streetOf(19, 2), 9);
        Check.due("the last WALKER", t.walkerOf(3, 1), 3);
        Check.due("the last CLAUSE", t.may(39, 38, 0), 1);
        Check.due("round elsewhere", t.may(0, 1, 0), 0);
        Check.due("the last day", t.day(6), 6);
    }
}
