import java.util.ArrayList;
import java.util.List;
import java.util.function.Consumer;
import java.util.function.ToIntFunction;

/**
 * Two objects of one story, one of which is asked something more: if that changes nothing, both answer alike behind it, whatever
 * they are asked. Story and questions stay below the 512 calls of which the document speaks.
 */
public final class Probe {
    private static final String TEXT = "thing 4 2 5;thing 2 3 0;first a 3 b 1 leaves b 2 like 4 wont q;second b 1;any 2 ab wont ps;"
        + "again 2;shop 0 2 4 6;out 5;guest 2 2;guest 3 1;";

    private final List<String> answers = new ArrayList<>();
    private final NothingLeft x;

    private Probe(NothingLeft x) {
        this.x = x;
    }

    /** Something of everything: a larder, days, what was eaten, sums, images, a row, sheets, faults, bytes on the tape. */
    public static NothingLeft lived() {
        NothingLeft x = Check.told(TEXT);
        x.put(1, 0, 3);
        Check.due("story: eaten", x.eat(0, false), 10);
        x.night();
        Check.due("story: image 0", x.keep(0), 0);
        x.night();
        x.put(0, 3, 1);
        x.put(1, 1, 2);
        Check.due("story: image 1", x.keep(1), 0);
        Check.due("story: eaten, too", x.eat(2, false), 0);
        for (int s : new int[] { 1, NothingLeft.NONE, 0, 2 }) {
            x.day(s);
        }
        sheet(x, 0, 0, 0, 2, 3, 0, 1, 5, 9);
        sheet(x, 1, 1, 1, 0, 4, 0, 3, 6, 1, 2, 7);
        sheet(x, 2, 2);
        Check.due("story: read", x.read(0, 0, 0, 3), 2);
        Check.due("story: a fault", Check.text(x, "again 9;"), -16);
        x.feed(0x616761696e20333bL);
        return x;
    }

    private static void sheet(NothingLeft x, int k, int lane, int... cells) {
        x.sheet(k, lane, cells.length);
        for (int i = 0; i < cells.length; i++) {
            x.lay(k, i, cells[i]);
        }
    }

    /** A call that answers as is due, and changes nothing. */
    public static void refused(String call, ToIntFunction<NothingLeft> asked, int due) {
        refused(Probe::lived, call, asked, due);
    }

    public interface Story {
        NothingLeft live();
    }

    public static void refused(Story story, String call, ToIntFunction<NothingLeft> asked, int due) {
        alike(call, story.live(), y -> Check.due(call, asked.applyAsInt(y), due), story.live());
    }

    /** What is done to one of two that are alike can't be seen behind it. */
    public static void alike(String name, NothingLeft x, Consumer<NothingLeft> done, NothingLeft other) {
        done.accept(x);
        alike(name, answersOf(x, true), answersOf(other, true));
    }

    /** A text was refused by the one, the other was told none: the fault alone is another. */
    public static void alikeButFault(String name, NothingLeft x, NothingLeft other) {
        alike(name, answersOf(x, false), answersOf(other, false));
    }

    private static void alike(String name, List<String> got, List<String> want) {
        int first = 0;
        while (first < got.size() && first < want.size() && got.get(first).equals(want.get(first))) {
            first++;
        }
        boolean isAlike = got.equals(want);
        Check.fine(name + " changes nothing" + (isAlike ? "" : ", but behind it " + (first < got.size() ? got.get(first) : "less")
            + ", without " + (first < want.size() ? want.get(first) : "less")), isAlike);
    }

    private static List<String> answersOf(NothingLeft x, boolean withFault) {
        Probe p = new Probe(x);
        if (withFault) {
            p.add("fault", x.fault());
        }
        p.add("torn", x.torn());
        p.askCounts();
        p.askRules();
        p.askRow();
        p.askKitchen();
        for (int i = 0; i < 2; i++) {
            p.add("back", x.back(i));
            p.askKitchen();
        }
        p.askSheets();
        p.add("text", x.text());
        p.add("its fault", x.fault());
        p.askCounts();
        p.add("its again", x.rule(0));
        return p.answers;
    }

    private void add(String call, int answer) {
        answers.add(call + " answers " + answer);
    }

    private void askCounts() {
        for (int what = 0; what <= 5; what++) {
            add("count " + what, x.count(what));
        }
    }

    private void askRules() {
        for (int what = 0; what <= 16; what += what == 2 ? 8 : 1) {
            add("rule " + what, x.rule(what));
        }
        for (int t = 0; t < x.count(0); t++) {
            for (int what = 0; what <= 2; what++) {
                add("thing " + t + " " + what, x.thing(t, what));
            }
        }
        for (int s = 0; s < x.count(1); s++) {
            for (int what : new int[] { 0, 1, 2, 3, 4, 10, 11, 20, 21 }) {
                add("supper " + s + " " + what, x.supper(s, what));
            }
        }
    }

    private void askRow() {
        for (int what = 0; what <= 13; what += what == 5 ? 5 : 1) {
            add("row " + what, x.row(what));
        }
        add("bears 0", x.bears(0));
        add("bears 1", x.bears(1));
    }

    private void askKitchen() {
        for (int what = 0; what <= 5; what++) {
            add("now " + what, x.now(what));
        }
        askLarder();
        for (int s = 0; s < x.count(1); s++) {
            add("last " + s, x.last(s));
            add("may " + s, x.may(s, false));
        }
    }

    private void askLarder() {
        for (int t = 0; t < x.count(0); t++) {
            for (int age = 0; age <= 3; age++) {
                add("has " + t + " " + age, x.has(t, age));
            }
        }
    }

    private void askSheets() {
        for (int k = 0; k < 4; k++) {
            for (int lane = 0; lane < 3; lane++) {
                add("read " + k + " " + lane, x.read(k, lane, 0, 3));
                add("its fault", x.torn());
            }
            add("read of lane k, two", x.read(k, k % 3, 0, 2));
            add("read of lane k from 1", x.read(k, k % 3, 1, 1));
            add("read of lane k from 37", x.read(k, k % 3, 37, 1));
            askLarder();
        }
    }
}
