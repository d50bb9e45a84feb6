/** What the tests share: answers that are due, and texts fed in eights. */
public final class Check {
    private static int wrong = 0;
    private static int looked = 0;

    private Check() {
    }

    public static void due(String what, long got, long want) {
        looked++;
        if (got != want) {
            wrong++;
            if (wrong <= 40) {
                System.out.println(what + " answered " + got + ", due is " + want);
            }
        }
    }

    public static void fine(String what, boolean is) {
        due(what, is ? 1 : 0, 1);
    }

    public static void finish(String name) {
        System.out.println(name + ": " + looked + " answers looked at, " + wrong + " wrong");
        if (wrong != 0) {
            System.exit(1);
        }
    }

    /** The eights of a text, blanks behind it. */
    public static long[] eights(String text) {
        long[] all = new long[(text.length() + 7) / 8];
        for (int i = 0; i < all.length * 8; i++) {
            all[i / 8] = all[i / 8] << 8 | (i < text.length() ? text.charAt(i) & 255 : 32);
        }
        return all;
    }

    public static void feed(NothingLeft x, String text) {
        for (long v : eights(text)) {
            x.feed(v);
        }
        x.end(text.length());
    }

    public static int text(NothingLeft x, String text) {
        feed(x, text);
        return x.text();
    }

    public static NothingLeft told(String text) {
        NothingLeft x = new NothingLeft();
        int lines = text(x, text);
        fine("text is taken: " + text, lines >= 0);
        return x;
    }

    /** A text is refused, with its fault at its place, and nothing is changed by it. */
    public static void refused(String text, int fault, int place) {
        NothingLeft x = told("thing 2 3 4; first a 2 like 5; again 3;");
        x.put(0, 1, 7);
        x.day(0);
        x.keep(1);
        due("text '" + text + "'", text(x, text), -10 - place);
        due("fault of '" + text + "'", x.fault(), fault);
        due("tape behind '" + text + "'", x.count(4), 0);
        due("things behind '" + text + "'", x.count(0), 1);
        due("keeps behind '" + text + "'", x.thing(0, 0), 2);
        due("pack behind '" + text + "'", x.thing(0, 1), 3);
        due("suppers behind '" + text + "'", x.count(1), 1);
        due("like behind '" + text + "'", x.supper(0, 1), 5);
        due("again behind '" + text + "'", x.rule(0), 3);
        due("shops behind '" + text + "'", x.rule(1), 127);
        due("outs behind '" + text + "'", x.rule(2), 0);
        due("larder behind '" + text + "'", x.has(0, 1), 7);
        due("row behind '" + text + "'", x.count(2), 1);
        due("images behind '" + text + "'", x.count(3), 1);
    }
}
