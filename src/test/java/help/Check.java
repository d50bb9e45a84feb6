import java.util.Arrays;

/** What the tests share: answers that are due, and texts fed in eights. */
public final class Check {
    private static int wrong = 0;
    private static int looked = 0;

    private Check() {
    }

    public static void due(String what, long got, long want) {
        looked++;
        if (got != want) {
            wrong++;
            if (wrong <= 40) {
                System.out.println(what + " answered " + got + ", due is " + want);
            }
        }
    }

    public static void fine(String what, boolean is) {
        due(what, is ? 1 : 0, 1);
    }

    public static void finish(String name) {
        System.out.println(name + ": " + looked + " answers looked at, " + wrong + " wrong");
        if (wrong != 0) {
            System.exit(1);
        }
    }

    /** The eights of a text, blanks behind it. */
    public static long[] eights(String text) {
        long[] all = new long[(text.length() + 7) / 8];
        for (int i = 0; i < all.length * 8; i++) {
            all[i / 8] = all[i / 8] << 8 | (i < text.length() ? text.charAt(i) & 255 : 32);
        }
        return all;
    }

    public static void feed(NothingLeft x, String text) {
        for (long v : eights(text)) {
            x.feed(v);
        }
        x.end(text.length());
    }

    public static int text(NothingLeft x, String text) {
        feed(x, text);
        return x.text();
    }

    public static NothingLeft told(String text) {
        NothingLeft x = new NothingLeft();
        int lines = text(x, text);
        fine("text is taken: " + text, lines >= 0);
        return x;
    }

    /** A text is refused, with its fault at its place, and nothing is changed by it but the tape, which is empty, and the fault. */
    public static void refused(String text, int fault, int place) {
        NothingLeft x = Probe.lived();
        NothingLeft other = Probe.lived();
        x.end(0);
        other.end(0);
        due("text '" + text + "'", text(x, text), -10 - place);
        due("fault of '" + text + "'", x.fault(), fault);
        due("tape behind '" + text + "'", x.count(4), 0);
        Probe.alikeButFault("text '" + text + "'", x, other);
    }

    /** Numbers outside of low to high: next to it, far off, and such as come back inside if they are cut, shifted or multiplied. */
    public static int[] outside(int low, int high) {
        int[] all = { low - 1, high + 1, low - 2, high + 2, -4, low + 256, low + 65536, low + (1 << 28), low + (1 << 29),
            low + (1 << 30), Integer.MAX_VALUE, Integer.MAX_VALUE - 1, Integer.MIN_VALUE, Integer.MIN_VALUE + 1, Integer.MIN_VALUE + low };
        return Arrays.stream(all).filter(v -> v < low || v > high).distinct().toArray();
    }
}
