import java.util.function.ToIntFunction;

/** "What is refused changes nothing": every call that is refused, and that nothing is changed by it; nor by calls that only ask. */
public final class RefusedTest {
    private static final int BAD = NothingLeft.BAD, STATE = NothingLeft.STATE, FULL = NothingLeft.FULL, NONE = NothingLeft.NONE;
    // What Probe.lived() has.
    private static final int THINGS = 2, SUPPERS = 3, TAPE = 8, CELLS = 7;

    public static void main(String[] args) {
        tape();
        asksOfTheText();
        larder();
        asksOfTheLarder();
        images();
        row();
        rowsOfDays();
        rowsThatNoneMayBe();
        otherPrices();
        sheets();
        readsOfSheets();
        counts();
        askingChangesNothing();
        onANewObject();
        Check.finish("RefusedTest");
    }

    private static void bad(String call, ToIntFunction<NothingLeft> asked) {
        Probe.refused(call, asked, BAD);
    }

    private static int[] noThing() {
        return Check.outside(0, THINGS - 1);
    }

    private static int[] noSupper() {
        return Check.outside(0, SUPPERS - 1);
    }

    private static void tape() {
        for (int n : Check.outside(0, TAPE)) {
            bad("end(" + n + ")", x -> x.end(n));
        }
        Probe.refused(() -> fullTape(400), "feed of a full tape", x -> x.feed(0x616761696e20373bL), FULL);
        Probe.refused(() -> fullTape(393), "feed of seven bytes less", x -> x.feed(0x616761696e20373bL), FULL);
        Probe.refused(() -> fullTape(400), "end(401)", x -> x.end(401), BAD);
    }

    /** Eight bytes of a line, blanks behind. */
    private static NothingLeft fullTape(int bytes) {
        NothingLeft x = Probe.lived();
        for (int i = 8; i < 400; i += 8) {
            x.feed(0x2020202020202020L);
        }
        x.end(bytes);
        return x;
    }

    private static void asksOfTheText() {
        for (int t : noThing()) {
            bad("thing(" + t + ", 0)", x -> x.thing(t, 0));
        }
        for (int what : Check.outside(0, 2)) {
            bad("thing(1, " + what + ")", x -> x.thing(1, what));
        }
        for (int s : noSupper()) {
            bad("supper(" + s + ", 0)", x -> x.supper(s, 0));
            bad("supper(" + s + ", 10)", x -> x.supper(s, 10));
            bad("supper(" + s + ", 21)", x -> x.supper(s, 21));
        }
        for (int what : Check.outside(0, 21)) {
            bad("supper(2, " + what + ")", x -> x.supper(2, what));
        }
        for (int what : new int[] { 5, 6, 9, 10 + THINGS, 15, 16, 19, 20 + THINGS, 25, 26 }) {
            bad("supper(0, " + what + ")", x -> x.supper(0, what));
        }
        for (int what : Check.outside(0, 16)) {
            bad("rule(" + what + ")", x -> x.rule(what));
        }
        for (int what = 3; what <= 9; what++) {
            int between = what;
            bad("rule(" + between + ")", x -> x.rule(between));
        }
    }

    private static void larder() {
        for (int t : noThing()) {
            bad("put(" + t + ", 0, 1)", x -> x.put(t, 0, 1));
        }
        for (int age : Check.outside(0, 3)) {
            bad("put(0, " + age + ", 1)", x -> x.put(0, age, 1));
        }
        for (int age : Check.outside(0, 1)) {
            bad("put(1, " + age + ", 1)", x -> x.put(1, age, 1));
        }
        for (int v : Check.outside(0, 9)) {
            bad("put(1, 1, " + v + ")", x -> x.put(1, 1, v));
        }
        for (int s : noSupper()) {
            bad("eat(" + s + ", false), one was eaten today", x -> x.eat(s, false));
            Probe.refused(RefusedTest::nextDay, "eat(" + s + ", true)", x -> x.eat(s, true), BAD);
        }
        for (int s = 0; s < SUPPERS; s++) {
            int again = s;
            Probe.refused("eat(" + s + "), one was eaten today", x -> x.eat(again, false), STATE);
        }
        whyNot(nextDay(), 3, 3, 2);
        Probe.refused(RefusedTest::nextDay, "eat(0), no shop", x -> x.eat(0, false), STATE);
        Probe.refused(RefusedTest::nextDay, "eat(1), lacking", x -> x.eat(1, true), STATE);
        Probe.refused(RefusedTest::nextDay, "eat(2), too soon", x -> x.eat(2, false), STATE);
        whyNot(nights(nextDay(), 2), 1, 1, 1);
        for (int s = 0; s < SUPPERS; s++) {
            int nobodyIn = s;
            Probe.refused(() -> nights(nextDay(), 2), "eat(" + s + "), nobody in", x -> x.eat(nobodyIn, false), STATE);
        }
    }

    private static void whyNot(NothingLeft x, int... due) {
        for (int s = 0; s < SUPPERS; s++) {
            Check.due("story: why supper " + s + " may not be", x.may(s, s == 1), due[s]);
        }
    }

    /** Nothing was eaten yet on this one. */
    private static NothingLeft nextDay() {
        return nights(Probe.lived(), 1);
    }

    private static NothingLeft nights(NothingLeft x, int nights) {
        for (int i = 0; i < nights; i++) {
            x.night();
        }
        return x;
    }

    private static void asksOfTheLarder() {
        for (int t : noThing()) {
            bad("has(" + t + ", 0)", x -> x.has(t, 0));
            bad("lacks(0, false, " + t + ", 0)", x -> x.lacks(0, false, t, 0));
        }
        for (int age : Check.outside(0, 3)) {
            bad("has(1, " + age + ")", x -> x.has(1, age));
        }
        for (int s : noSupper()) {
            bad("may(" + s + ", true)", x -> x.may(s, true));
            bad("lacks(" + s + ", true, 0, 0)", x -> x.lacks(s, true, 0, 0));
            bad("last(" + s + ")", x -> x.last(s));
        }
        for (int what : Check.outside(0, 2)) {
            bad("lacks(0, false, 0, " + what + ")", x -> x.lacks(0, false, 0, what));
        }
        for (int what : Check.outside(0, 5)) {
            bad("now(" + what + ")", x -> x.now(what));
        }
    }

    private static void images() {
        for (int i : Check.outside(0, 1)) {
            bad("keep(" + i + ")", x -> x.keep(i));
            bad("back(" + i + ")", x -> x.back(i));
        }
        Probe.refused(RefusedTest::oneImage, "back(0) of none", x -> x.back(0), STATE);
        Probe.refused(NothingLeft::new, "back(1) of none", x -> x.back(1), STATE);
    }

    private static NothingLeft oneImage() {
        NothingLeft x = Check.told("thing 4 1 1;first a 1;");
        x.put(0, 2, 5);
        x.eat(0, false);
        x.keep(1);
        x.night();
        return x;
    }

    private static void row() {
        for (int s : noSupper()) {
            if (s != NONE) {
                bad("day(" + s + ")", x -> x.day(s));
                Probe.refused(RefusedTest::fullRow, "day(" + s + ") of a full row", x -> x.day(s), BAD);
            }
        }
        Probe.refused(RefusedTest::fullRow, "day(2) of a full row", x -> x.day(2), FULL);
        Probe.refused(RefusedTest::fullRow, "day(NONE) of a full row", x -> x.day(NONE), FULL);
        for (int what : Check.outside(0, 13)) {
            bad("row(" + what + ")", x -> x.row(what));
        }
        for (int what = 6; what <= 9; what++) {
            int between = what;
            bad("row(" + between + ")", x -> x.row(between));
        }
        for (int what : Check.outside(0, 1)) {
            bad("bears(" + what + ")", x -> x.bears(what));
        }
    }

    private static NothingLeft fullRow() {
        NothingLeft x = Probe.lived();
        x.day(2);
        x.day(NONE);
        Check.due("seventh day", x.day(1), 7);
        return x;
    }

    private static void rowsOfDays() {
        for (int n : Check.outside(1, 5)) {
            bad("best(" + n + ", 0)", x -> x.best(n, 0));
            bad("best(" + n + ", 4)", x -> x.best(n, 4));
            bad("best(" + n + ", 10)", x -> x.best(n, 10));
            bad("fairest(" + n + ", 0)", x -> x.fairest(n, 0));
            bad("closes(" + n + ", 0)", x -> x.closes(n, 0));
            bad("closes(" + n + ", 10)", x -> x.closes(n, 10));
            bad("cheap(0, 1, " + n + ")", x -> x.cheap(0, 1, n));
            bad("cold(0, " + n + ")", x -> x.cold(0, n));
        }
        for (int n : Check.outside(1, 4)) {
            bad("small(0, " + n + ")", x -> x.small(0, n));
            bad("dish(" + n + ")", x -> x.dish(n));
        }
        for (int n : Check.outside(1, 3)) {
            bad("surest(" + n + ", 0)", x -> x.surest(n, 0));
            bad("surest(" + n + ", 10)", x -> x.surest(n, 10));
        }
        for (int n = 1; n <= 5; n++) {
            whatOfRows(n);
        }
    }

    private static void whatOfRows(int n) {
        for (int what : Check.outside(0, 9 + n)) {
            bad("best(" + n + ", " + what + ")", x -> x.best(n, what));
            bad("fairest(" + n + ", " + what + ")", x -> x.fairest(n, what));
            bad("closes(" + n + ", " + what + ")", x -> x.closes(n, what));
            bad("surest(" + n + ", " + what + ")", x -> x.surest(n, what));
        }
        for (int what = 1; what <= 9; what++) {
            int between = what;
            bad("fairest(" + n + ", " + what + ")", x -> x.fairest(n, between));
            if (what > 1) {
                bad("surest(" + n + ", " + what + ")", x -> x.surest(n, between));
            }
            if (what > 2) {
                bad("closes(" + n + ", " + what + ")", x -> x.closes(n, between));
            }
            if (what > 4) {
                bad("best(" + n + ", " + what + ")", x -> x.best(n, between));
            }
        }
    }

    /** No supper may be: what is wanted is not there and can't be bought; wrong numbers are BAD there, too. */
    private static NothingLeft noneMayBe() {
        NothingLeft x = Probe.lived();
        x.end(0);
        Check.due("story: text", Check.text(x, "thing 1 1 0;second a 1;first a 2 wont p;"), 3);
        x.night();
        x.day(1);
        x.keep(0);
        x.feed(0x616761696e20333bL);
        return x;
    }

    private static void rowsThatNoneMayBe() {
        for (int n = 1; n <= 5; n++) {
            int days = n;
            for (int what : new int[] { 0, 1, 2, 3, 10, 9 + n }) {
                Probe.refused(RefusedTest::noneMayBe, "best(" + n + ", " + what + ")", x -> x.best(days, what), NONE);
            }
            Probe.refused(RefusedTest::noneMayBe, "best(" + n + ", 4)", x -> x.best(days, 4), 0);
            Probe.refused(RefusedTest::noneMayBe, "best(" + n + ", 10 + n)", x -> x.best(days, 10 + days), BAD);
            for (int what : new int[] { 0, 10, 9 + n }) {
                Probe.refused(RefusedTest::noneMayBe, "fairest(" + n + ", " + what + ")", x -> x.fairest(days, what), NONE);
                Probe.refused(RefusedTest::noneMayBe, "surest(" + n + ", " + what + ")", x -> x.surest(days, what), n <= 3 ? NONE : BAD);
                Probe.refused(RefusedTest::noneMayBe, "closes(" + n + ", " + what + ")", x -> x.closes(days, what), what == 0 ? 0 : NONE);
            }
            Probe.refused(RefusedTest::noneMayBe, "closes(" + n + ", 1)", x -> x.closes(days, 1), 0);
            Probe.refused(RefusedTest::noneMayBe, "closes(" + n + ", 2)", x -> x.closes(days, 2), 3);
            Probe.refused(RefusedTest::noneMayBe, "fairest(" + n + ", 10 + n)", x -> x.fairest(days, 10 + days), BAD);
            Probe.refused(RefusedTest::noneMayBe, "surest(" + n + ", 10 + n)", x -> x.surest(days, 10 + days), BAD);
            Probe.refused(RefusedTest::noneMayBe, "cheap(0, 0, " + n + ")", x -> x.cheap(0, 0, days), NONE);
            Probe.refused(RefusedTest::noneMayBe, "cold(0, " + n + ")", x -> x.cold(0, days), NONE);
        }
        Probe.refused(RefusedTest::noneMayBe, "shortest()", x -> x.shortest(), NONE);
        Probe.refused(RefusedTest::noThings, "dish(4)", x -> x.dish(4), NONE);
        Probe.refused(RefusedTest::noThings, "dish(5)", x -> x.dish(5), BAD);
        Probe.refused(RefusedTest::noThings, "dish(0)", x -> x.dish(0), BAD);
    }

    private static NothingLeft noThings() {
        NothingLeft x = Check.told("first;");
        x.eat(0, false);
        return x;
    }

    private static void otherPrices() {
        for (int t : noThing()) {
            bad("small(" + t + ", 1)", x -> x.small(t, 1));
            bad("cheap(" + t + ", 1, 1)", x -> x.cheap(t, 1, 1));
            bad("cold(" + t + ", 1)", x -> x.cold(t, 1));
        }
        for (int v : Check.outside(0, 60)) {
            bad("cheap(0, " + v + ", 1)", x -> x.cheap(0, v, 1));
            Probe.refused(RefusedTest::noneMayBe, "cheap(0, " + v + ", 1), none may be", x -> x.cheap(0, v, 1), BAD);
        }
    }

    private static void sheets() {
        for (int k : Check.outside(0, 3)) {
            bad("sheet(" + k + ", 0, 1)", x -> x.sheet(k, 0, 1));
            bad("sheet(" + k + ", 0, -1)", x -> x.sheet(k, 0, -1));
            bad("lay(" + k + ", 0, 1)", x -> x.lay(k, 0, 1));
        }
        for (int lane : Check.outside(0, 2)) {
            bad("sheet(0, " + lane + ", 1)", x -> x.sheet(0, lane, 1));
            bad("sheet(0, " + lane + ", -1)", x -> x.sheet(0, lane, -1));
        }
        for (int n : Check.outside(0, 40)) {
            Probe.refused("sheet(0, 1, " + n + ")", x -> x.sheet(0, 1, n), n < 0 ? -14 : BAD);
            Probe.refused("sheet(3, 2, " + n + ") of nothing", x -> x.sheet(3, 2, n), n < 0 ? -14 : BAD);
        }
        for (int i : Check.outside(0, CELLS - 1)) {
            Probe.refused("lay(0, " + i + ", 1)", x -> x.lay(0, i, 1), -12);
            Probe.refused("lay(3, " + i + ", 1)", x -> x.lay(3, i, 1), -11);
        }
        Probe.refused("lay(2, 0, 1) of no cells", x -> x.lay(2, 0, 1), -12);
        Probe.refused("lay(3, 0, 1) of nothing", x -> x.lay(3, 0, 1), -11);
    }

    private static void readsOfSheets() {
        for (int k : Check.outside(0, 3)) {
            bad("read(" + k + ", 0, 0, 1)", x -> x.read(k, 0, 0, 1));
            bad("read(" + k + ", 0, 0, 0)", x -> x.read(k, 0, 0, 0));
        }
        for (int lane : Check.outside(0, 2)) {
            bad("read(0, " + lane + ", 0, 1)", x -> x.read(0, lane, 0, 1));
            bad("read(3, " + lane + ", 0, 0)", x -> x.read(3, lane, 0, 0));
        }
        for (int n : Check.outside(0, 12)) {
            bad("read(0, 0, 0, " + n + ")", x -> x.read(0, 0, 0, n));
            bad("read(3, 0, 0, " + n + ") of nothing", x -> x.read(3, 0, 0, n));
        }
        Probe.refused("read(1, 1, 6, 1), age of keeps", x -> x.read(1, 1, 6, 1), -20);
        Probe.refused("read(1, 1, 3, 2), behind one that is not refused", x -> x.read(1, 1, 3, 2), -21);
        Probe.refused("read(1, 1, 0, 3), behind two", x -> x.read(1, 1, 0, 3), -22);
        Probe.refused("read(1, 1, 0, 4), it is met ahead of the end of the sheet", x -> x.read(1, 1, 0, 4), -22);
        Probe.refused("read(1, 1, 2, 1), no such thing", x -> x.read(1, 1, 2, 1), -20);
        Probe.refused("read(1, 1, 4, 2), no such thing, ahead of the end of the sheet", x -> x.read(1, 1, 4, 2), -20);
    }

    private static void counts() {
        for (int what : Check.outside(0, 5)) {
            bad("count(" + what + ")", x -> x.count(what));
        }
    }

    /** Calls that answer, and change nothing either. */
    private static void askingChangesNothing() {
        for (int n = 1; n <= 5; n++) {
            int days = n;
            asked("best(" + n + ")", x -> x.best(days, 0) + x.best(days, 4) + x.best(days, 10));
            asked("fairest(" + n + ")", x -> x.fairest(days, 0) + x.fairest(days, 10));
            asked("surest(" + n + ")", x -> x.surest(days, 0) + x.surest(days, 10));
            asked("closes(" + n + ")", x -> x.closes(days, 0) + x.closes(days, 10));
            asked("small(0, " + n + ")", x -> x.small(0, days) + x.small(1, days));
            asked("dish(" + n + ")", x -> x.dish(days));
            asked("cheap(0, 60, " + n + ")", x -> x.cheap(0, 60, days) + x.cheap(1, 1, days));
            asked("cold(1, " + n + ")", x -> x.cold(1, days) + x.cold(0, days));
        }
        asked("shortest()", x -> x.shortest());
        asked("row", x -> x.row(0) + x.row(5) + x.row(13));
        asked("bears", x -> x.bears(0) + x.bears(1));
        asked("may", x -> x.may(0, true) + x.may(1, false) + x.may(2, true));
        asked("lacks", x -> x.lacks(0, true, 0, 1) + x.lacks(2, false, 1, 2) + x.lacks(2, true, 0, 0));
        asked("fault and torn", x -> x.fault() + x.torn());
        asked("count", x -> x.count(0) + x.count(4) + x.count(5));
    }

    private static void asked(String call, ToIntFunction<NothingLeft> asks) {
        Probe.alike(call + ", asked,", Probe.lived(), x -> asks.applyAsInt(x), Probe.lived());
        Probe.alike(call + ", asked on the next day,", nextDay(), x -> asks.applyAsInt(x), nextDay());
    }

    private static void onANewObject() {
        for (int t = 0; t < 6; t++) {
            int thing = t;
            fresh("thing", x -> x.thing(thing, 0));
            fresh("put", x -> x.put(thing, 0, 1));
            fresh("has", x -> x.has(thing, 0));
            fresh("small", x -> x.small(thing, 1));
            fresh("cheap", x -> x.cheap(thing, 1, 1));
            fresh("cold", x -> x.cold(thing, 1));
        }
        for (int s = 0; s < 8; s++) {
            int supper = s;
            fresh("supper", x -> x.supper(supper, 0));
            fresh("may", x -> x.may(supper, false));
            fresh("lacks", x -> x.lacks(supper, false, 0, 0));
            fresh("eat", x -> x.eat(supper, true));
            fresh("last", x -> x.last(supper));
            fresh("day", x -> x.day(supper));
        }
    }

    private static void fresh(String call, ToIntFunction<NothingLeft> asked) {
        Probe.refused(NothingLeft::new, call + " on a new object", asked, BAD);
    }
}
