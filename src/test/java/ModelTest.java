import java.util.Random;

/** Runs of calls by chance, of which each must answer what the model answers; and none may throw. */
public final class ModelTest {
    private static final int RUNS = 300;
    private static final int CALLS = 512;
    private static final String[] KINDS = {"turn", "on", "left", "sharp", "right", "round"};
    private static final String[] FACTS = {"wide", "was", "long", "day", "width", "place"};
    private static final String[] ODD = {"", " ", "if", "or", "and", "not", "(", ")", ";", "<", "=", ">", "12345", "x", "\u00e9", "ifs", "0"};
    private static final int[] WILD = {-1, 0, 1, 9, 10, 12, 20, 39, 40, 41, Integer.MIN_VALUE, Integer.MAX_VALUE, -40, 1000};

    private final Random chance;
    private final LeftTown town = new LeftTown();
    private final Model model = new Model();
    private String told;

    private ModelTest(int seed) {
        chance = new Random(seed);
    }

    /** Other runs than .ci/run's: the first seed and how many may be told. */
    public static void main(String[] args) {
        int first = args.length < 1 ? 0 : Integer.parseInt(args[0]);
        int runs = args.length < 2 ? RUNS : Integer.parseInt(args[1]);
        for (int seed = first; seed < first + runs; seed++) {
            if (!new ModelTest(seed).run(seed)) {
                break;
            }
        }
        Check.end();
    }

    private boolean run(int seed) {
        int grid = 2 + chance.nextInt(8);
        int dense = chance.nextInt(3);
        for (int call = 0; call < CALLS; call++) {
            int what = call < 40 && dense > 0 ? chance.nextInt(8) : chance.nextInt(100);
            long[] both = ask(what, grid);
            Check.due("seed " + seed + ", call " + call + ": " + told, both[0], both[1]);
            if (both[0] != both[1]) {
                return false;
            }
        }
        return true;
    }

    // Mostly a number below the limit or one more, at times a wild one.
    private int some(int below) {
        int way = chance.nextInt(40);
        return way == 0 ? WILD[chance.nextInt(WILD.length)] : way == 1 ? below : way == 2 ? -1 : chance.nextInt(below);
    }

    private int c() {
        return some(Math.max(1, model.many(0)));
    }

    private int s() {
        return some(Math.max(1, model.many(1)));
    }

    private int course() {
        return some(Math.max(1, 2 * model.many(1)));
    }

    private int after(int from) {
        for (int i = 0; i < 30; i++) {
            int to = chance.nextInt(40);
            if (model.turn(from, to) > 0) {
                return to;
            }
        }
        return course();
    }

    private int width() {
        return chance.nextInt(3) == 0 ? some(10) : chance.nextInt(3);
    }

    private int wild() {
        return chance.nextInt(3) == 0 ? WILD[chance.nextInt(WILD.length)] : chance.nextInt(3) == 0 ? chance.nextInt() : chance.nextInt(300) - 20;
    }

    private String name(String call, Object... args) {
        StringBuilder b = new StringBuilder(call).append('(');
        for (int i = 0; i < args.length; i++) {
            b.append(i == 0 ? "" : ", ").append(args[i]);
        }
        return b.append(')').toString();
    }

    private long[] ask(int what, int grid) {
        if (what < 8) {
            return what < 3 ? askCrossing(grid) : askStreet();
        }
        if (what < 40) {
            return askTown(what);
        }
        if (what < 70) {
            return askWays(what);
        }
        return askHost(what);
    }

    private long[] askCrossing(int grid) {
        int x = some(grid);
        int y = some(grid);
        told = name("crossing", x, y);
        return new long[] {town.crossing(x, y), model.crossing(x, y)};
    }

    private long[] askStreet() {
        int a = c();
        int b = c();
        int wide = some(10);
        boolean oneWay = chance.nextInt(4) == 0;
        told = name("street", a, b, wide, oneWay);
        return new long[] {town.street(a, b, wide, oneWay), model.street(a, b, wide, oneWay)};
    }

    private long[] askLaw() {
        String text = lawText();
        for (int i = 0; i < text.length(); i += 8) {
            long eight = chance.nextLong() << 32;
            int n = Math.min(8, text.length() - i);
            for (int k = 0; k < n; k++) {
                eight &= ~(255L << 8 * k);
                eight |= (long) (text.charAt(i + k) & 255) << 8 * k;
            }
            long got = town.feed(eight, n);
            long due = model.feed(eight, n);
            if (got != due) {
                told = "feed";
                return new long[] {got, due};
            }
        }
        told = "law() of '" + text + "'";
        return new long[] {town.law(), model.law()};
    }

    private String lawText() {
        StringBuilder b = new StringBuilder();
        int clauses = chance.nextInt(20) == 0 ? 9 : chance.nextInt(5);
        for (int i = 0; i < clauses; i++) {
            b.append(blank()).append(KINDS[chance.nextInt(6)]);
            if (chance.nextInt(3) != 0) {
                b.append(" if ").append(condText(0));
            }
            b.append(blank()).append(';');
        }
        if (b.length() > 0 && chance.nextInt(6) == 0) {
            int at = chance.nextInt(b.length());
            b.replace(at, Math.min(b.length(), at + chance.nextInt(3)), ODD[chance.nextInt(ODD.length)]);
        }
        if (chance.nextInt(15) == 0) {
            b.setLength(chance.nextInt(b.length() + 1));
        }
        return b.toString();
    }

    private String blank() {
        return " ".repeat(chance.nextInt(3) == 0 ? chance.nextInt(3) : 0);
    }

    private String condText(int open) {
        StringBuilder b = new StringBuilder();
        int parts = chance.nextInt(3) == 0 ? 3 : 1;
        for (int i = 0; i < parts; i++) {
            if (i > 0) {
                b.append(chance.nextBoolean() ? " or " : " and ");
            }
            for (int k = chance.nextInt(6) - 3; k > 0; k--) {
                b.append("not ");
            }
            if (chance.nextInt(4) == 0 && open < 4) {
                b.append('(').append(condText(open + 1)).append(blank()).append(')');
            } else {
                b.append(valueText()).append(blank()).append("<=>".charAt(chance.nextInt(3))).append(blank()).append(valueText());
            }
        }
        return b.toString();
    }

    private String valueText() {
        return chance.nextInt(2) == 0 ? FACTS[chance.nextInt(6)] : chance.nextInt(20) == 0 ? "0007" : "" + chance.nextInt(8);
    }

    private long[] askTown(int what) {
        int a;
        int b;
        int d;
        switch (what) {
            case 8:
                a = c();
                b = some(4);
                told = name("crossingOf", a, b);
                return new long[] {town.crossingOf(a, b), model.crossingOf(a, b)};
            case 9:
            case 10:
                a = s();
                b = some(6);
                told = name("streetOf", a, b);
                return new long[] {town.streetOf(a, b), model.streetOf(a, b)};
            case 11:
            case 12:
            case 13:
                a = s();
                boolean is = chance.nextInt(5) < 2;
                told = name("shut", a, is);
                return new long[] {town.shut(a, is), model.shut(a, is)};
            case 14:
            case 15:
                a = s();
                b = some(10);
                told = name("widen", a, b);
                return new long[] {town.widen(a, b), model.widen(a, b)};
            case 16:
                a = some(7);
                told = name("day", a);
                return new long[] {town.day(a), model.day(a)};
            case 17:
                a = some(9);
                told = name("feed", "?", a);
                long eight = chance.nextLong();
                return new long[] {town.feed(eight, a), model.feed(eight, a)};
            case 18:
            case 19:
            case 20:
                return askLaw();
            case 21:
                told = "law()";
                return new long[] {town.law(), model.law()};
            case 22:
                a = course();
                b = chance.nextBoolean() ? after(a) : course();
                told = name("turn", a, b);
                return new long[] {town.turn(a, b), model.turn(a, b)};
            case 23:
            case 24:
            case 25:
            case 26:
                a = course();
                b = after(a);
                d = width();
                told = name("may", a, b, d);
                return new long[] {town.may(a, b, d), model.may(a, b, d)};
            default:
                return askWalkers(what);
        }
    }

    private long[] askWalkers(int what) {
        int a = some(4);
        int b;
        switch (what) {
            case 27:
            case 28:
                a = course();
                b = width();
                told = name("walker", a, b);
                return new long[] {town.walker(a, b), model.walker(a, b)};
            case 29:
            case 30:
                b = some(3);
                told = name("walkerOf", a, b);
                return new long[] {town.walkerOf(a, b), model.walkerOf(a, b)};
            case 31:
            case 32:
            case 33:
            case 34:
                b = after(model.walkerOf(a, 0));
                told = name("go", a, b);
                return new long[] {town.go(a, b), model.go(a, b)};
            case 35:
                b = course();
                told = name("put", a, b);
                return new long[] {town.put(a, b), model.put(a, b)};
            case 36:
                if (chance.nextInt(4) != 0) {
                    told = "many(2)";
                    return new long[] {town.many(2), model.many(2)};
                }
                told = "keep()";
                return new long[] {town.keep(), model.keep()};
            case 37:
                if (chance.nextInt(4) != 0) {
                    told = "many(6)";
                    return new long[] {town.many(6), model.many(6)};
                }
                told = "again()";
                return new long[] {town.again(), model.again()};
            default:
                b = some(4);
                int w = some(2);
                told = name("meet", a, b, w);
                return new long[] {town.meet(a, b, w), model.meet(a, b, w)};
        }
    }

    private long[] askWays(int what) {
        int a = course();
        int b = c();
        int w = width();
        switch (what) {
            case 40:
            case 41:
            case 42:
                told = name("far", a, b, w);
                return new long[] {town.far(a, b, w), model.far(a, b, w)};
            case 43:
            case 44:
                told = name("first", a, b, w);
                return new long[] {town.first(a, b, w), model.first(a, b, w)};
            case 45:
                a = c();
                told = name("free", a, b);
                return new long[] {town.free(a, b), model.free(a, b)};
            case 46:
            case 47:
                told = name("reach", a, w);
                return new long[] {town.reach(a, w), model.reach(a, w)};
            case 48:
                told = name("pairs", w);
                return new long[] {town.pairs(w), model.pairs(w)};
            case 49:
                told = name("never", w);
                return new long[] {town.never(w), model.never(w)};
            case 50:
                told = name("parts", w);
                return new long[] {town.parts(w), model.parts(w)};
            case 51:
            case 52:
                told = name("loop", a, w);
                return new long[] {town.loop(a, w), model.loop(a, w)};
            case 53:
                told = name("worst", w);
                return new long[] {town.worst(w), model.worst(w)};
            case 54:
                told = name("opened", w);
                return new long[] {town.opened(w), model.opened(w)};
            case 55:
                a = some(16);
                told = name("other", a);
                return new long[] {town.other(a), model.other(a)};
            case 56:
            case 57:
            case 58:
                told = name("prove", a, b);
                return new long[] {town.prove(a, b), model.prove(a, b)};
            default:
                return askRows(what);
        }
    }

    private long[] askRows(int what) {
        int i = some(Math.max(1, model.many(5)));
        int part = some(3);
        if (what < 64) {
            told = name("row", i, part);
            return new long[] {town.row(i, part), model.row(i, part)};
        }
        if (what < 66) {
            int v = chance.nextInt(4) == 0 ? wild() : chance.nextInt(40);
            told = name("alterRow", i, part, v);
            return new long[] {town.alterRow(i, part, v), model.alterRow(i, part, v)};
        }
        int a = course();
        told = name("judge", a);
        return new long[] {town.judge(a), model.judge(a)};
    }

    private long[] askHost(int what) {
        int a = some(4);
        int b;
        int d;
        switch (what % 10) {
            case 0:
                b = chance.nextInt(3) == 0 ? 0 : some(6) - 1;
                d = chance.nextInt(8) == 0 ? wild() : chance.nextInt(41);
                told = name("sheet", a, b, d);
                return new long[] {town.sheet(a, b, d), model.sheet(a, b, d)};
            case 1:
                b = some(12);
                d = chance.nextBoolean() ? wild() : chance.nextInt(11);
                told = name("write", a, b, d);
                return new long[] {town.write(a, b, d), model.write(a, b, d)};
            case 2:
                b = some(5);
                d = some(12);
                told = name("item", a, b, d);
                return new long[] {town.item(a, b, d), model.item(a, b, d)};
            case 3:
                b = some(8);
                d = some(21);
                told = name("wides", a, b, d);
                return new long[] {town.wides(a, b, d), model.wides(a, b, d)};
            case 4:
            case 5:
                b = chance.nextInt(2) == 0 ? 0 : some(3);
                d = b == 1 ? some(4) : course();
                int e = after(d);
                told = name("shelf", a, b, d, e);
                return new long[] {town.shelf(a, b, d, e), model.shelf(a, b, d, e)};
            case 6:
                b = chance.nextInt(3) == 0 ? 10 + some(5) : some(6);
                told = name("taken", a, b);
                return new long[] {town.taken(a, b), model.taken(a, b)};
            case 7:
                b = some(4);
                d = wild();
                told = name("act", a, b, d);
                return new long[] {town.act(a, b, d), model.act(a, b, d)};
            case 8:
                b = some(8);
                told = name("trace", b);
                return new long[] {town.trace(b), model.trace(b)};
            default:
                b = some(8);
                told = name("many", b);
                return new long[] {town.many(b), model.many(b)};
        }
    }
}
