import java.util.Random;

/** Runs of calls by chance (the same ones each time), each answer against the one of Plain; at most 512 of one object. */
public final class RandomTest {
    private static final int RUNS = 3000;
    // A step asks some 25 times at most.
    private static final int STEPS_UP_TO = 470;

    private final Random random;
    private NothingLeft x;
    private Plain y;
    private String name = "";
    private int calls;

    private RandomTest(int seed) {
        random = new Random(seed);
    }

    public static void main(String[] args) {
        int from = args.length > 0 ? Integer.parseInt(args[0]) : 0;
        int runs = args.length > 1 ? Integer.parseInt(args[1]) : RUNS;
        for (int seed = from; seed < from + runs; seed++) {
            new RandomTest(seed).run(seed);
        }
        Check.finish("RandomTest");
    }

    private void run(int seed) {
        for (int i = 0; i < 6; i++) {
            begin(seed);
            tellText(text());
            tellText(faulty(text()));
            tellText(faulty(text()));
        }
        for (int i = 0; i < 3; i++) {
            begin(seed);
            tellText(faulty(text()));
            tellText(text());
            while (calls < STEPS_UP_TO) {
                step();
            }
            for (int what = -1; what <= 5; what++) {
                same("count " + what, x.count(what), y.count(what));
            }
        }
    }

    private void begin(int seed) {
        x = new NothingLeft();
        y = new Plain();
        name = "run " + seed;
        calls = 0;
    }

    private void same(String call, int got, int want) {
        calls++;
        Check.due(name + ", " + call, got, want);
    }

    private int below(int n) {
        return random.nextInt(n);
    }

    private boolean oneIn(int n) {
        return random.nextInt(n) == 0;
    }

    /** Mostly from low to high, now and then outside. */
    private int about(int low, int high) {
        if (oneIn(60)) {
            return new int[] { Integer.MIN_VALUE, Integer.MAX_VALUE, low - 1, high + 1, -4, 400 }[below(6)];
        }
        return low + below(high - low + 1);
    }

    private void tellText(String text) {
        for (long v : Check.eights(text)) {
            same("feed", x.feed(v), y.feed(v));
        }
        same("end", x.end(text.length()), y.end(text.length()));
        if (text.length() > 400) {
            same("end", x.end(399), y.end(399));
        }
        name = name.replaceAll(", text.*", "") + ", text '" + text + "'";
        same("text", x.text(), y.text());
        same("fault", x.fault(), y.fault());
        for (int what = -1; what < 27; what++) {
            same("rule " + what, x.rule(what), y.rule(what));
            for (int s = 0; s < 9; s++) {
                if (oneIn(8)) {
                    same("supper " + s + " " + what, x.supper(s, what), y.supper(s, what));
                }
                if (what <= 3 && oneIn(3)) {
                    same("thing " + s + " " + what, x.thing(s, what), y.thing(s, what));
                }
            }
        }
    }

    private String portions(int things) {
        StringBuilder b = new StringBuilder();
        for (int t = 0; t < things; t++) {
            if (oneIn(things)) {
                b.append(' ').append((char) ('a' + t)).append(' ').append(1 + below(3));
            }
        }
        return b.toString();
    }

    private String letters(String from) {
        StringBuilder b = new StringBuilder();
        for (char c : from.toCharArray()) {
            if (oneIn(2)) {
                b.insert(below(b.length() + 1), c);
            }
        }
        return b.length() == 0 ? from.substring(0, 1) : b.toString();
    }

    private String supper(int things) {
        String kind = new String[] { "first", "first", "second", "feast", "any" }[below(5)];
        String text = kind + (kind.equals("any") ? " " + (1 + below(oneIn(4) ? 9 : 3)) + " "
            + letters("abcdef".substring(0, things)) : portions(things));
        text += oneIn(2) ? " leaves" + portions(things) : "";
        text += oneIn(2) ? " like " + below(oneIn(2) ? 10 : 2) : "";
        return text + (oneIn(2) ? " wont " + letters("pqrs") : "") + ";";
    }

    private String text() {
        int things = 1 + below(oneIn(3) ? 6 : 3);
        StringBuilder b = new StringBuilder();
        for (int t = 0; t < things; t++) {
            b.append("thing " + (1 + below(4)) + " " + (1 + below(4)) + " " + (oneIn(4) ? 0 : below(oneIn(3) ? 61 : 4)) + ";");
        }
        for (int s = below(oneIn(3) ? 7 : 4); s >= 0; s--) {
            b.insert(oneIn(10) ? 0 : b.length(), supper(things));
        }
        b.append(oneIn(2) ? "again " + below(oneIn(3) ? 8 : 3) + ";" : "");
        b.append(oneIn(3) ? "shop" + (oneIn(2) ? " 0" : "") + (oneIn(2) ? " 1 3" : "") + (oneIn(2) ? " 6" : "") + ";" : "");
        for (int w = 0; w < 7; w++) {
            b.append(oneIn(7) ? "out " + w + ";" : "");
            b.append(oneIn(2) ? "guest " + w + " " + (1 + below(4)) + ";" : "");
        }
        return b.length() > 400 ? "thing 2 2 2;first a 1;" : b.toString();
    }

    private String faulty(String text) {
        StringBuilder b = new StringBuilder(text);
        String[] bits = { "a", "g", "1", "0", "9", "61", "123", ";", " ", " ", "leaves", "like", "wont", "p", "first", "any", "thing",
            "out", "shop", "guest", "again", "A", ".", "\u0000", "\u00ff", " 3", " a 1", " b 2" };
        for (int i = 1 + below(3); i > 0; i--) {
            int at = below(b.length() + 1);
            int to = Math.min(b.length(), at + (oneIn(2) ? 0 : 1 + below(4)));
            b.replace(at, to, oneIn(3) ? "" : bits[below(bits.length)]);
        }
        return b.toString();
    }

    private void step() {
        int call = below(28);
        int t = about(0, Math.max(0, y.count(0) - 1));
        int s = about(0, Math.max(0, y.count(1) - 1));
        boolean guests = oneIn(2);
        // All rows are tried by Plain: five days are for few suppers.
        int days = y.count(1) > 4 ? 3 : y.count(1) > 3 ? 4 : 5;
        int n = about(1, days);
        int small = about(1, Math.min(3, days));
        if (call < 4) {
            int age = about(0, 3);
            int v = about(0, oneIn(3) ? 9 : 3);
            same("put", x.put(t, age, v), y.put(t, age, v));
        } else if (call < 8) {
            same("eat " + s, x.eat(s, guests), y.eat(s, guests));
        } else if (call < 11) {
            same("night", x.night(), y.night());
        } else if (call < 14) {
            int d = oneIn(5) ? -4 : s;
            same("day " + d, x.day(d), y.day(d));
        } else if (call < 16) {
            sheets();
        } else {
            more(call, t, s, n, small);
        }
        look(t, s, guests);
    }

    private void more(int call, int t, int s, int n, int small) {
        int what = about(0, 4 + Math.max(1, Math.min(n, 5))) + (oneIn(2) ? 0 : 10 - below(2) * 5);
        int i = about(0, 1);
        int v = about(0, oneIn(2) ? 60 : 5);
        switch (call) {
            case 16: same("keep", x.keep(i), y.keep(i)); break;
            case 17: same("back", x.back(i), y.back(i)); break;
            case 18: same("best " + n + " " + what, x.best(n, what), y.best(n, what)); break;
            case 19: same("fairest", x.fairest(n, what > 5 ? what : 0), y.fairest(n, what > 5 ? what : 0)); break;
            case 20: same("surest " + small + " " + what, x.surest(small, what), y.surest(small, what)); break;
            case 21: same("closes " + n + " " + what, x.closes(n, what), y.closes(n, what)); break;
            case 22: if (y.count(1) < 4) { same("shortest", x.shortest(), y.shortest()); } break;
            case 23: same("small", x.small(t, small), y.small(t, small)); break;
            case 24: same("dish", x.dish(small), y.dish(small)); break;
            case 25: same("cheap", x.cheap(t, v, n), y.cheap(t, v, n)); break;
            case 26: same("cold", x.cold(t, n), y.cold(t, n)); break;
            default: if (oneIn(2)) { same("clear", x.clear(), y.clear()); } break;
        }
    }

    private void sheets() {
        int k = about(0, 1);
        int lane = oneIn(6) ? about(0, 2) : k;
        if (oneIn(4)) {
            int n = about(-1, 12);
            same("sheet", x.sheet(k, lane, n), y.sheet(k, lane, n));
        }
        for (int i = 0; i < 6; i++) {
            int at = about(0, 12);
            int v = oneIn(9) ? random.nextInt() : below(4) + (oneIn(4) ? 65536 : 0);
            same("lay", x.lay(k, at, v), y.lay(k, at, v));
        }
        int f = oneIn(5) ? about(-4, 12) : 3 * below(2);
        int n = about(0, 4);
        same("read " + f + " " + n, x.read(k, lane, f, n), y.read(k, lane, f, n));
        same("torn", x.torn(), y.torn());
    }

    private void look(int t, int s, boolean guests) {
        for (int what = -1; what <= 6; what++) {
            if (oneIn(4)) {
                same("now " + what, x.now(what), y.now(what));
                same("lacks " + what, x.lacks(s, guests, t, what), y.lacks(s, guests, t, what));
            }
            if (oneIn(2)) {
                same("has " + what, x.has(t, what), y.has(t, what));
            }
        }
        same("may", x.may(s, guests), y.may(s, guests));
        same("last", x.last(s), y.last(s));
        int more = below(16) - 1;
        for (int what : new int[] { 0, 1 + below(5), more }) {
            same("row " + what, x.row(what), y.row(what));
        }
        if (y.count(2) <= 4) {
            int part = about(0, 1);
            same("bears " + part, x.bears(part), y.bears(part));
        }
    }
}
