import java.util.ArrayList;
import java.util.List;

/** At each place of a TEXT: what may stand there is read on, and what may not is the FAULT, as is an end that comes too soon. */
public final class FaultTest {
    private static final List<String> KINDS = List.of("turn", "on", "left", "sharp", "right", "round");
    private static final List<String> FACTS = List.of("wide", "was", "long", "day", "width", "place");
    private static final List<String> NUMBERS = List.of("0", "9", "10", "9999", "0000");
    private static final List<String> SIGNS = List.of("<", "=", ">");
    private static final List<String> OTHERS = List.of("if", "or", "and", "not", "(", ")", ";",
        "00000", "12345", "a", "z", "o", "onn", "turns", "i", "iff", "nota", "anda", "ors", "wides", "wi", "dayday", "If", "ON", "\u00e9");
    private static final String C = "1<2";

    public static void main(String[] args) {
        clauses();
        afterAKind();
        parts();
        values();
        afterAComparison();
        brackets();
        blanks();
        everyByte();
        namesAndNumbers();
        Check.end();
    }

    private static List<String> all(List<String> one, List<String> two) {
        List<String> both = new ArrayList<>(one);
        both.addAll(two);
        return both;
    }

    /** Behind the text each TOKEN is tried; those allowed are taken there, all others are the FAULT. */
    private static void place(String text, boolean mayEnd, List<String> allowed) {
        end(text, mayEnd);
        for (List<String> some : List.of(KINDS, FACTS, NUMBERS, SIGNS, OTHERS)) {
            for (String token : some) {
                for (String gap : new String[] {" ", "   "}) {
                    one(text, gap, token, allowed.contains(token));
                }
            }
        }
    }

    private static void end(String text, boolean mayEnd) {
        for (String tail : new String[] {"", " ", "     "}) {
            int answer = Check.law(new LeftTown(), text + tail);
            Check.due("'" + text + tail + "' ends", answer >= 0 ? 1 : answer, mayEnd ? 1 : -100 - text.length() - tail.length());
        }
    }

    private static void one(String text, String gap, String token, boolean is) {
        LeftTown t = new LeftTown();
        Check.law(t, "on;");
        int at = text.length() + gap.length();
        String whole = text + gap + token;
        int answer = Check.law(t, whole);
        if (is) {
            Check.isTrue("'" + whole + "' goes on", answer >= 0 || answer == -100 - whole.length());
        } else {
            Check.due("'" + whole + "'", answer, -100 - at);
        }
        Check.due("THE TAPE is used up", t.many(6), 0);
        Check.due("THE LAW is that of now", t.many(4), answer >= 0 ? answer : 1);
    }

    private static void clauses() {
        place("", true, KINDS);
        place("on;", true, KINDS);
        place("on if 1<2;", true, KINDS);
        place("turn;on;left;sharp;right;round;turn;", true, KINDS);
        place("turn;on;left;sharp;right;round;turn;on;", true, List.of());
    }

    private static void afterAKind() {
        for (String kind : KINDS) {
            place(kind, false, List.of("if", ";"));
        }
        place("on; left", false, List.of("if", ";"));
    }

    private static void parts() {
        for (String text : new String[] {"on if", "on if not", "on if not not not", "on if 1<2 and", "on if 1<2 or", "on if 1<2 or not",
            "on if (", "on if ((", "on if (1<2 and", "on; left if", "on if ((1<2)) and not"}) {
            place(text, false, all(all(FACTS, NUMBERS), List.of("not", "(")));
        }
        for (String text : new String[] {"on if (((", "on if (((not", "on if (((1<2 or", "on if (((1<2) and 1<2) or ((not"}) {
            place(text, false, all(all(FACTS, NUMBERS), List.of("not")));
        }
    }

    private static void values() {
        for (String left : new String[] {"0", "9999", "wide", "was", "long", "day", "width", "place"}) {
            place("on if " + left, false, SIGNS);
            place("on if (not " + left, false, SIGNS);
            for (String sign : SIGNS) {
                place("on if " + left + sign, false, all(FACTS, NUMBERS));
            }
        }
    }

    private static void afterAComparison() {
        List<String> more = List.of("and", "or");
        for (String text : new String[] {"on if " + C, "on if not day = width", "on if (" + C + ")", "on if 1<2 and 1<2 or 1<2",
            "on if (((" + C + ")))", "left; on if not (" + C + ")"}) {
            place(text, false, all(more, List.of(";")));
        }
        for (String text : new String[] {"on if (" + C, "on if ((" + C, "on if ((" + C + ")", "on if (((" + C, "on if (((" + C + "))",
            "on if " + C + " and (" + C, "on if not (not " + C + " or (" + C + ")"}) {
            place(text, false, all(more, List.of(")")));
        }
    }

    private static void brackets() {
        StringBuilder open = new StringBuilder("on if ");
        for (int n = 1; n <= 5; n++) {
            open.append('(');
            LeftTown t = new LeftTown();
            String whole = open + C + ")".repeat(n) + ";";
            Check.due(whole, Check.law(t, whole), n <= 3 ? 1 : -109);
            whole = open + C + ")".repeat(n - 1) + ";";
            Check.due(whole, Check.law(t, whole), n <= 3 ? -101 - whole.length() + 2 : -109);
            whole = open + C + ")".repeat(n + 1) + ";";
            Check.due(whole, Check.law(t, whole), n <= 3 ? -101 - whole.length() + 3 : -109);
        }
    }

    // Blanks stand where one likes, but not within a NAME or NUMBER; no other byte does as they do.
    private static void blanks() {
        LeftTown t = new LeftTown();
        Check.due("none but those that part", Check.law(t, "on if(not day<3and(wide>was or place=1))or long>width;left;"), 2);
        Check.due("many", Check.law(t, "  on   if  (  not  day  <  3  and  wide  >  was  )  ;  left  ;  "), 2);
        Check.due("within a NAME", Check.law(t, "o n;"), -100);
        Check.due("within a NAME", Check.law(t, "on i f 1<2;"), -103);
        Check.due("within a NUMBER", Check.law(t, "on if 1 2<3;"), -108);
        Check.due("two NAMES not parted", Check.law(t, "onif 1<2;"), -100);
        Check.due("two NAMES not parted", Check.law(t, "on if notday<2;"), -106);
        for (char c : new char[] {0, 9, 10, 11, 12, 13, 31, 160}) {
            Check.due("no blank: " + (int) c, Check.law(t, "on" + c + ";"), -102);
            Check.due("no blank: " + (int) c, Check.law(t, c + "on;"), -100);
            Check.due("no blank: " + (int) c, Check.law(t, "on;" + c), -103);
        }
    }

    private static void everyByte() {
        LeftTown t = new LeftTown();
        for (int b = 0; b < 256; b++) {
            char c = (char) b;
            if (b == 64 || b == 128 || b == 192) {
                t = new LeftTown();
            }
            Check.due("byte " + b + " in place of a CLAUSE", Check.law(t, c + ""), c == ' ' ? 0 : -100);
            Check.due("byte " + b + " behind a KIND", Check.law(t, "on " + c), c == ' ' ? -104 : c == ';' ? 1 : -103);
            boolean isDigit = c >= '0' && c <= '9';
            int due = isDigit || c == '(' || c == ' ' ? -107 : -106;
            Check.due("byte " + b + " in place of a COND", Check.law(t, "on if " + c), due);
        }
    }

    // Each goes as long as its own signs go, so the one ends where the other begins.
    private static void namesAndNumbers() {
        LeftTown t = new LeftTown();
        Check.due("a NUMBER, then a NAME", Check.law(t, "on if 1<2and 3<4or 5=6;"), 1);
        Check.due("a NAME, then a NUMBER", Check.law(t, "on if not1<2 and2<3 or3<4;"), 1);
        Check.due("if, then a NUMBER", Check.law(t, "on if1<2;"), 1);
        Check.due("a NAME ends at a digit", Check.law(t, "on1;"), -102);
        Check.due("a NAME ends at a digit", Check.law(t, "on if wide1<2;"), -110);
        Check.due("a NUMBER ends at a letter", Check.law(t, "on if 1a<2;"), -107);
        Check.due("four digits, then a letter", Check.law(t, "on if 1234and;"), -110);
        Check.due("five digits, then a letter", Check.law(t, "on if 12345and;"), -106);
        Check.due("four digits and a blank", Check.law(t, "on if 1234 5<1;"), -111);
    }
}
