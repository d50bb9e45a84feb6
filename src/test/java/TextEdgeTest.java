import java.util.function.ToIntFunction;

/** Part 1 of the document's terms, and promises 1 to 8: each sentence that names an edge, quoted above its test. */
public final class TextEdgeTest {
    private static final int BAD = NothingLeft.BAD, FULL = NothingLeft.FULL, NONE = NothingLeft.NONE;
    private static final String SIX = "thing 1 1 1;".repeat(6), EIGHT = "first;".repeat(8);

    public static void main(String[] args) {
        lastOf512Calls();
        newObject();
        tapeOf400Bytes();
        placesFrom0();
        fullTape();
        tapeKeepsItsFirstBytes();
        tapeIsEmptyBehindText();
        whatWasToldStays();
        linesTold();
        tokensAsLongAsMayBe();
        blanks();
        blanksNeeded();
        signs();
        figures();
        thingBounds();
        portionBounds();
        soupBounds();
        likeAndAgainBounds();
        weekBounds();
        shopRises();
        restMayBeTold();
        lettersOnce();
        fault1();
        fault2();
        fault3();
        fault4();
        fault5();
        fault6();
        faultFirstMet();
        faultOfLatestText();
        textInPlaceOfWhatThereWas();
        whatIsNotToldIsAsAtFirst();
        nothingOfFullTextsStays();
        thingsAndSuppersAsked();
        rulesAsked();
        Check.finish("TextEdgeTest");
    }

    private static void taken(String text, int lines) {
        NothingLeft x = new NothingLeft();
        Check.due("lines of '" + text + "'", Check.text(x, text), lines);
        Check.due("fault of '" + text + "'", x.fault(), 0);
    }

    /** From low to high a number is taken, and told as it was; the next ones outside are refused at its place. */
    private static void bounds(String ahead, int low, int high, String behind, ToIntFunction<NothingLeft> told) {
        for (int v = low; v <= high; v++) {
            Check.due(ahead + v + behind, told.applyAsInt(Check.told(ahead + v + behind)), v);
        }
        if (low > 0) {
            Check.refused(ahead + (low - 1) + behind, 3, ahead.length());
        }
        Check.refused(ahead + (high + 1) + behind, 3, ahead.length());
        Check.refused(ahead + 99 + behind, 3, ahead.length());
        Check.refused(ahead + 100 + behind, 1, ahead.length());
    }

    // "An object is used for at most 512 calls after it has been made"
    private static void lastOf512Calls() {
        NothingLeft x = new NothingLeft();
        for (int call = 1; call <= 511; call++) {
            Check.due("night", x.night(), 0);
        }
        Check.due("the 512th call", x.now(0), 511);
        NothingLeft y = new NothingLeft();
        Check.due("text", Check.text(y, "thing 1 1 9;first a 1;again 1;"), 3);
        for (int call = 7; call < 511; call += 2) {
            Check.due("eaten", y.eat(0, false), 9);
            Check.due("night", y.night(), 0);
        }
        Check.due("the 512th call, behind 252 suppers", y.now(2), 252 * 9);
    }

    // "No THINGS, SUPPERS; again 0, each DAY is a shop; SHEETS of nothing."
    private static void newObject() {
        NothingLeft x = new NothingLeft();
        Check.due("new: things", x.count(0), 0);
        Check.due("new: suppers", x.count(1), 0);
        Check.due("new: no first thing", x.thing(0, 0), BAD);
        Check.due("new: no first supper", x.supper(0, 0), BAD);
        Check.due("new: again", x.rule(0), 0);
        Check.due("new: each day is a shop", x.rule(1), 127);
        Check.due("new: nobody is out", x.rule(2), 0);
        Check.due("new: sheet 0", x.count(5), NONE);
        for (int k = 0; k < 4; k++) {
            Check.due("new: lay in nothing", x.lay(k, 0, 0), -11);
            Check.due("new: read of nothing", x.read(k, 2, 0, 1), 0);
            Check.due("new: its fault", x.torn(), 1);
        }
    }

    // "FULL: more than 400."
    private static void tapeOf400Bytes() {
        NothingLeft x = new NothingLeft();
        for (int had = 8; had <= 400; had += 8) {
            Check.due("feed up to " + had, x.feed(0x2020202020202020L), had);
        }
        Check.due("feed above 400", x.feed(0x2020202020202020L), FULL);
        for (int had = 393; had <= 399; had++) {
            x.end(had);
            Check.due("feed above 400 from " + had, x.feed(0x2020202020202020L), FULL);
            Check.due("bytes", x.count(4), had);
            Check.due("400 again", refill(x), 400);
        }
        x.end(392);
        Check.due("feed up to 400 from 392", x.feed(0x616761696e20343bL), 400);
        Check.due("its text", x.text(), 1);
        Check.due("its again, at the end of the tape", x.rule(0), 4);
    }

    private static int refill(NothingLeft x) {
        x.end(392);
        return x.feed(0x2020202020202020L);
    }

    // "Eight bytes come behind THE TAPE, the highest first"; "THE TAPE has 400 bytes, places from 0."
    private static void placesFrom0() {
        NothingLeft x = new NothingLeft();
        for (int place = 0; place < 8; place++) {
            x.feed(0x2020202020202020L ^ 0x20L << 8 * (7 - place));
            Check.due("byte 0 is no token, at " + place, x.text(), -10 - place);
            Check.due("its fault", x.fault(), 1);
        }
        for (int place : new int[] { 0, 1, 8, 9, 255, 256, 398, 399 }) {
            String blanks = " ".repeat(place);
            Check.refused(blanks + "!" + " ".repeat(399 - place), 1, place);
            Check.refused(blanks + ";" + " ".repeat(399 - place), 2, place);
        }
        Check.refused(" ".repeat(394) + "again ", 2, 400);
        Check.refused(" ".repeat(393) + "again 7", 2, 400);
        Check.refused(" ".repeat(393) + "again 8", 3, 399);
        Check.refused(" ".repeat(391) + "again 789", 1, 397);
        taken(" ".repeat(392) + "again 7;", 1);
        taken(" ".repeat(400), 0);
        for (long v : new long[] { Long.MIN_VALUE, Long.MAX_VALUE, -1, 0, 1 }) {
            x.feed(v);
            Check.due("bytes of " + v + " are no tokens", x.text(), -10);
            Check.due("their fault", x.fault(), 1);
        }
    }

    // The same, of a tape without a blank.
    private static void fullTape() {
        String text = "thing1 1 1;".repeat(6) + "first leaves like0;".repeat(7) + "any1abcdef;" + "again 07;" + "shop;"
            + "out 0;out 1;out 2;out 3;out 4;out 5;out 6;" + "guest 0 1;guest 1 1;guest 2 1;guest 3 1;guest 4 1;guest 5 1;guest 6 1;";
        text += " ".repeat(399 - text.length());
        taken(text, 30);
        taken(text + " ", 30);
        Check.refused(text + ";", 2, 399);
        Check.refused(text + "a", 2, 399);
        Check.refused(text.substring(0, 393) + "shopper", 2, 393);
        String name = "z".repeat(400);
        Check.refused(name, 2, 0);
        Check.refused("7".repeat(400), 1, 0);
        Check.refused(";".repeat(400), 2, 0);
        Check.refused("any 1 " + "a".repeat(394), 3, 6);
        Check.refused("again " + "0".repeat(394), 1, 6);
    }

    // "THE TAPE keeps its first n bytes: how many it had. BAD (n above that, too)."
    private static void tapeKeepsItsFirstBytes() {
        NothingLeft x = new NothingLeft();
        Check.due("end(0) of none", x.end(0), 0);
        for (int n : Check.outside(0, 0)) {
            Check.due("end(" + n + ") of none", x.end(n), BAD);
        }
        Check.feed(x, "again 7;again 8;");
        for (int n : Check.outside(0, 16)) {
            Check.due("end(" + n + ") of 16", x.end(n), BAD);
            Check.due("bytes", x.count(4), 16);
        }
        Check.due("end(16) of 16", x.end(16), 16);
        Check.due("end(15) of 16", x.end(15), 16);
        Check.due("end(16) of 15", x.end(16), BAD);
        Check.due("end(8) of 15", x.end(8), 15);
        Check.due("its first bytes", x.text(), 1);
        Check.due("again of them", x.rule(0), 7);
        Check.feed(x, "again 2;");
        Check.due("end(0)", x.end(0), 8);
        Check.due("nothing is left", x.text(), 0);
        Check.due("it tells nothing", x.rule(0), 0);
        Check.feed(x, " ".repeat(400));
        Check.due("end(401) of 400", x.end(401), BAD);
        Check.due("end(400) of 400", x.end(400), 400);
        Check.due("end(1) of 400", x.end(1), 400);
    }

    // "THE TAPE (empty then, by a FAULT, too)"
    private static void tapeIsEmptyBehindText() {
        NothingLeft x = new NothingLeft();
        Check.text(x, "again 7;");
        Check.due("bytes behind a text that is taken", x.count(4), 0);
        Check.text(x, "again 8;");
        Check.due("bytes behind one that is not", x.count(4), 0);
        Check.due("end(1) of none", x.end(1), BAD);
        Check.due("feed comes first again", x.feed(0x616761696e20323bL), 8);
        Check.due("its text", x.text(), 1);
        Check.feed(x, " ".repeat(400));
        x.text();
        Check.due("feed behind a full tape", x.feed(0), 8);
    }

    // "-10 less the place of its FAULT: that which was told stays."
    private static void whatWasToldStays() {
        Check.refused("!", 1, 0);
        Check.refused("thing 1 1 1;first a 1;again 1;shop 1;out 1;guest 1 1;!", 1, 53);
        Check.refused("thing 1 1 1;first a 1;again 1;shop 1;out 1;guest 1 1;any 1 b;", 6, 59);
        NothingLeft x = Check.told("thing 4 3 2;again 6;shop 5;out 4;guest 3 2;any 9 a leaves a 1 like 8 wont r;");
        Check.due("a text with a fault", Check.text(x, "thing 1 1 1;thing 1 1 1;first;first;again 1;shop 1;out 1;guest 1 1;;"), -77);
        int[] due = { 1, 1, 4, 3, 2, 6, 32, 16, 0, 2, 3, 8, 4, 9, 1, 1 };
        int[] got = { x.count(0), x.count(1), x.thing(0, 0), x.thing(0, 1), x.thing(0, 2), x.rule(0), x.rule(1), x.rule(2), x.rule(11),
            x.rule(13), x.supper(0, 0), x.supper(0, 1), x.supper(0, 2), x.supper(0, 3), x.supper(0, 4), x.supper(0, 20) };
        for (int i = 0; i < due.length; i++) {
            Check.due("told before, " + i, got[i], due[i]);
        }
    }

    // "tells all: how many lines"
    private static void linesTold() {
        taken("", 0);
        taken(" ", 0);
        taken("shop;", 1);
        taken("shop;out 1;", 2);
        taken(SIX + EIGHT, 14);
        Check.due("no text on a new object", new NothingLeft().text(), 0);
    }

    // "TOKENS, each as long as may be"
    private static void tokensAsLongAsMayBe() {
        Check.refused("outout 1;", 2, 0);
        Check.refused("shopout;", 2, 0);
        Check.refused("firsta 1;", 2, 0);
        Check.refused("any 1 aleaves;", 3, 6);
        Check.refused("thing 1 1 1;first aleaves a 1;", 3, 18);
        Check.refused("guest 123;", 1, 6);
        Check.refused("thing 111;", 1, 6);
        Check.refused("thing 11 1;", 3, 6);
    }

    // "blanks (32) ahead, between, behind, as many as wanted"
    private static void blanks() {
        taken("      again      7      ;     ", 1);
        taken(" ; ".replace(';', ' '), 0);
        taken("out" + " ".repeat(390) + "6" + "     ;", 1);
        for (char c : new char[] { 0, 9, 10, 11, 13, 31, 33, 95, 127, 128, 160, 255 }) {
            Check.refused(c + "again 7;", 1, 0);
            Check.refused("again" + c + "7;", 1, 5);
            Check.refused("again 7;" + c, 1, 8);
        }
    }

    // "at least one between two NAMES, between two NUMBERS; else none is needed"
    private static void blanksNeeded() {
        taken("thing4 4 60;first a3leaves a2like9wont pqrs;any9a leaves a1;again7;shop0 6;out6;guest6 4;", 7);
        taken("first;second;feast;out0;shop;", 5);
        NothingLeft x = Check.told("thing 1 1 10;first a1b2leaves;thing 1 1 1;");
        Check.due("a1", x.supper(0, 10), 1);
        Check.due("b2", x.supper(0, 11), 2);
        Check.refused("thing 1 110;", 1, 8);
        Check.refused("thing 1 11;", 3, 8);
        Check.refused("first wontp;", 3, 6);
    }

    // "NAMES (a .. z)"
    private static void signs() {
        Check.refused("a", 2, 0);
        Check.refused("z", 2, 0);
        Check.refused("`", 1, 0);
        Check.refused("{", 1, 0);
        Check.refused("A", 1, 0);
        Check.refused("Z", 1, 0);
        Check.refused("thing 1 1 1;first a;", 2, 19);
        Check.refused("any 1 z", 3, 6);
        Check.refused("any 1 `", 1, 6);
        Check.refused("any 1 {", 1, 6);
        Check.refused("again\u00e1 1;", 1, 5);
        Check.refused(":", 1, 0);
        Check.refused("<", 1, 0);
    }

    // "NUMBERS (1 or 2 figures)"
    private static void figures() {
        Check.refused("0", 2, 0);
        Check.refused("9", 2, 0);
        Check.refused("00", 2, 0);
        Check.refused("99", 2, 0);
        Check.refused("000", 1, 0);
        Check.refused("999", 1, 0);
        Check.refused("/", 1, 0);
        Check.refused(":", 1, 0);
        Check.refused("again /;", 1, 6);
        Check.refused("again :;", 1, 6);
        Check.refused("again 4294967296;", 1, 6);
        Check.refused("again 4294967299;", 1, 6);
        Check.refused("again 18446744073709551617;", 1, 6);
        Check.due("two figures, 0 ahead", Check.told("again 07;").rule(0), 7);
        Check.due("00", Check.told("again 00;").rule(0), 0);
    }

    // "how many nights it KEEPS (1 to 4), units of a PACK (1 to 4), PRICE of a PACK (0 to 60 ..)"
    private static void thingBounds() {
        bounds("thing ", 1, 4, " 1 1;", x -> x.thing(0, 0));
        bounds("thing 1 ", 1, 4, " 1;", x -> x.thing(0, 1));
        bounds("thing 1 1 ", 0, 60, ";", x -> x.thing(0, 2));
    }

    // "W: how many units (1 to 3)"
    private static void portionBounds() {
        for (String kind : new String[] { "first", "second", "feast" }) {
            bounds("thing 1 1 1;" + kind + " a ", 1, 3, ";", x -> x.supper(0, 10));
            bounds("thing 1 1 1;" + kind + " leaves a ", 1, 3, ";", x -> x.supper(0, 20));
            bounds("thing 1 1 1;" + kind + " a 1 leaves a ", 1, 3, " like 1;", x -> x.supper(0, 20));
        }
        bounds("thing 1 1 1;any 1 a leaves a ", 1, 3, ";", x -> x.supper(0, 20));
        bounds(SIX + "first a 1 b 2 c 3 d 1 e 2 f ", 1, 3, ";", x -> x.supper(0, 15));
        bounds(SIX + "first leaves f ", 1, 3, " e 2 d 1 c 3 b 2 a 1;", x -> x.supper(0, 25));
    }

    // "any: units (1 to 9), out of which THINGS."
    private static void soupBounds() {
        bounds("thing 1 1 1;any ", 1, 9, " a;", x -> x.supper(0, 3));
        Check.due("one thing, the last", Check.told(SIX + "any 1 f;").supper(0, 4), 32);
        Check.due("all things", Check.told(SIX + "any 1 fabcde;").supper(0, 4), 63);
        Check.refused(SIX + "any 1 g;", 3, 78);
        Check.refused(SIX + "any 1 abcdefa;", 3, 78);
        Check.refused(SIX + "any 1 abcdefg;", 3, 78);
        Check.refused(SIX + "any 1;", 2, 77);
    }

    // "like: 0 to 9 (0)." "again: 0 to 7 (0)."
    private static void likeAndAgainBounds() {
        bounds("first like ", 0, 9, ";", x -> x.supper(0, 1));
        bounds("thing 1 1 1;any 2 a like ", 0, 9, " wont s;", x -> x.supper(0, 1));
        bounds("again ", 0, 7, ";", x -> x.rule(0));
        Check.due("like, not told", Check.told("first;").supper(0, 1), 0);
        Check.due("again, not told", Check.told("first;").rule(0), 0);
    }

    // "shop: DAYS of the week on which one can buy (0 to 6 ..)", "out: a DAY of the week", "guest: a DAY of the week, CHANCES of 4 (1 to 4)"
    private static void weekBounds() {
        bounds("shop ", 0, 6, ";", x -> Integer.numberOfTrailingZeros(x.rule(1)));
        bounds("out ", 0, 6, ";", x -> Integer.numberOfTrailingZeros(x.rule(2)));
        for (int day = 0; day <= 6; day++) {
            int asked = 10 + day;
            Check.due("guests of day " + day, Check.told("guest " + day + " 3;").rule(asked), 3);
            bounds("guest " + day + " ", 1, 4, ";", x -> x.rule(asked));
        }
        Check.refused("guest 7 1;", 3, 6);
        Check.refused("guest 99 1;", 3, 6);
        Check.due("guests of a day that is not told", Check.told("guest 5 3;").rule(14), 0);
    }

    // "(0 to 6, rising; every one, if it is not told)"
    private static void shopRises() {
        Check.due("not told", Check.told("again 1;").rule(1), 127);
        Check.due("told, none", Check.told("shop;").rule(1), 0);
        Check.due("the first", Check.told("shop 0;").rule(1), 1);
        Check.due("the last", Check.told("shop 6;").rule(1), 64);
        Check.due("next to one another", Check.told("shop 5 6;").rule(1), 96);
        Check.due("all", Check.told("shop 0 1 2 3 4 5 6;").rule(1), 127);
        Check.refused("shop 0 0;", 3, 7);
        Check.refused("shop 6 5;", 3, 7);
        Check.refused("shop 6 6;", 3, 7);
        Check.refused("shop 6 7;", 3, 7);
        Check.refused("shop 0 1 2 3 4 5 6 7;", 3, 19);
        Check.refused("shop 0 1 2 3 4 5 6 6;", 3, 19);
    }

    // "rest: [ leaves { W } ] [ like N ] [ wont P ]"
    private static void restMayBeTold() {
        String[] leaves = { "", " leaves", " leaves b 2 a 1" };
        String[] like = { "", " like 7" };
        String[] wont = { "", " wont sq" };
        for (String kind : new String[] { "first", "second a 3", "feast b 1 a 2", "any 5 ba" }) {
            for (int i = 0; i < 12; i++) {
                String rest = leaves[i % 3] + like[i / 3 % 2] + wont[i / 6];
                NothingLeft x = Check.told("thing 1 1 1;thing 1 1 1;" + kind + rest + ";");
                Check.due("leaves of a by" + rest, x.supper(0, 20), i % 3 == 2 ? 1 : 0);
                Check.due("leaves of b by" + rest, x.supper(0, 21), i % 3 == 2 ? 2 : 0);
                Check.due("like by" + rest, x.supper(0, 1), i / 3 % 2 == 1 ? 7 : 0);
                Check.due("wont by" + rest, x.supper(0, 2), i / 6 == 1 ? 10 : 0);
            }
        }
        Check.refused("first like 1 leaves;", 2, 13);
        Check.refused("first wont p leaves;", 2, 13);
        Check.refused("first wont p like 1;", 2, 13);
        Check.refused("first like 1 like 1;", 2, 13);
        Check.refused("first wont p wont q;", 2, 13);
        Check.refused("first leaves leaves;", 3, 13);
    }

    // "S: THINGS (letters, each once)   P: PEOPLE (letters, each once)"
    private static void lettersOnce() {
        for (int p = 0; p < 4; p++) {
            String letter = "pqrs".substring(p, p + 1);
            Check.due("wont " + letter, Check.told("first wont " + letter + ";").supper(0, 2), 1 << p);
            Check.refused("first wont " + letter + letter + ";", 3, 11);
        }
        Check.due("all of them", Check.told("first wont srqp;").supper(0, 2), 15);
        Check.refused("first wont o;", 3, 11);
        Check.refused("first wont t;", 3, 11);
        Check.refused("first wont pqrst;", 3, 11);
        Check.refused("first wont pqrsp;", 3, 11);
        for (int t = 0; t < 6; t++) {
            String letter = "abcdef".substring(t, t + 1);
            Check.due("any of " + letter, Check.told(SIX + "any 1 " + letter + ";").supper(0, 4), 1 << t);
            Check.refused(SIX + "any 1 " + letter + letter + ";", 3, 78);
        }
    }

    // "1 no TOKEN, a NUMBER that is too long (its first byte)."
    private static void fault1() {
        Check.refused("again 1;    .", 1, 12);
        Check.refused("again    123;", 1, 9);
        Check.refused("again 123", 1, 6);
        Check.refused("again 1;123", 1, 8);
        Check.refused("again1,", 1, 6);
        Check.refused("again.", 1, 5);
    }

    // "2 a TOKEN that can not stand there (a NAME that begins no line; or the end: the length)."
    private static void fault2() {
        String[] begun = { "thing", "thing 1", "thing 1 1", "thing 1 1 1", "first", "second", "feast", "first leaves", "first like",
            "first like 1", "first wont", "first wont p", "first a", "first a 1", "first leaves a", "first leaves a 1", "any", "any 1",
            "any 1 a", "again", "again 1", "shop", "shop 1", "out", "out 1", "guest", "guest 1", "guest 1 1" };
        for (String text : begun) {
            Check.refused(text, 2, text.length());
            Check.refused(text + "  ", 2, text.length() + 2);
        }
        for (String name : new String[] { "like", "wont", "leaves", "a", "p", "things", "thin", "firs", "shops", "guests", "anya", "x" }) {
            Check.refused(name + ";", 2, 0);
            Check.refused("shop;" + name + " 1;", 2, 5);
        }
        // Where a number must be, a point, a name; where a name must be, a number, a point.
        Check.refused("again ;", 2, 6);
        Check.refused("again p;", 2, 6);
        Check.refused("thing 1 ; 1;", 2, 8);
        Check.refused("guest 1 a;", 2, 8);
        Check.refused("out ;", 2, 4);
        Check.refused("any 1 1;", 2, 6);
        Check.refused("any 1 ;", 2, 6);
        Check.refused("first wont 1;", 2, 11);
        Check.refused("first wont ;", 2, 11);
        Check.refused("first 1;", 2, 6);
        Check.refused("first leaves 1;", 2, 13);
        Check.refused("shop 1 out 1;", 2, 7);
        Check.refused("again 1 out 1;", 2, 8);
    }

    // "3 a NUMBER out of its bounds (shop: not above the one ahead), a NAME that is not what must be there."
    private static void fault3() {
        for (String name : new String[] { "g", "p", "z", "aa", "ab", "thing", "first", "leave", "likes", "won", "any" }) {
            Check.refused("thing 1 1 1;first " + name + " 1;", 3, 18);
            Check.refused("thing 1 1 1;first leaves " + name + " 1;", 3, 25);
            Check.refused("thing 1 1 1;first a 1 " + name + " 1;", 3, 22);
            Check.refused("thing 1 1 1;any 1 a leaves a 1 " + name + " 1;", 3, 31);
        }
        Check.refused("any 1 leaves;", 3, 6);
        Check.refused("any 1 p;", 3, 6);
        Check.refused("first wont a;", 3, 11);
        Check.refused("first wont like;", 3, 11);
        Check.refused("guest 7;", 3, 6);
        Check.refused("thing 5;", 3, 6);
        Check.refused("shop 2 1 999;", 3, 7);
    }

    // "4 a THING for the second time in wants, leaves (it); again, shop for the second time (its NAME); out, guest of a DAY .. (it)."
    private static void fault4() {
        String wants = "a1b1c1d1e1f1";
        for (int t = 0; t < 6; t++) {
            String again = wants.substring(2 * t, 2 * t + 2);
            Check.refused(SIX + "second " + wants + again + ";", 4, 91);
            Check.refused(SIX + "second " + wants + "leaves " + wants + again + ";", 4, 110);
        }
        taken(SIX + "second " + wants + "leaves " + wants + ";", 7);
        taken(SIX + "second " + wants + ";second " + wants + ";", 8);
        Check.refused("again 1;out 1;again 1;", 4, 14);
        Check.refused("shop 1;out 1;shop 2;", 4, 13);
        Check.refused("shop;out 1;  shop;", 4, 13);
        Check.refused("again 0;again 0;", 4, 8);
        for (int day = 0; day <= 6; day++) {
            Check.refused("out " + day + ";shop;out " + day + ";", 4, 15);
            Check.refused("guest " + day + " 1;shop;guest " + day + " 2;", 4, 21);
            taken("out " + day + ";out " + (day + 1) % 7 + ";guest " + day + " 1;guest " + (day + 1) % 7 + " 1;", 4);
        }
    }

    // "5 the 7th thing, the 9th supper (its NAME)."
    private static void fault5() {
        taken(SIX, 6);
        Check.refused(SIX + "thing 1 1 1;", 5, 72);
        Check.refused(SIX + " thing", 5, 73);
        Check.refused(SIX + "thing 999", 5, 72);
        taken(EIGHT, 8);
        for (String kind : new String[] { "first", "second", "feast", "any 1 a" }) {
            Check.refused(EIGHT + kind + ";", 5, 48);
            Check.refused(EIGHT + "  " + kind + " .", 5, 50);
        }
        taken("thing 1 1 1;" + "second;feast;any 1 a;first;".repeat(2), 9);
        Check.refused("thing 1 1 1;" + "second;feast;any 1 a;first;".repeat(2) + "any", 5, 66);
        taken(EIGHT + SIX, 14);
        Check.refused(EIGHT + SIX + "thing", 5, 120);
        Check.refused(EIGHT + SIX + "feast", 5, 120);
    }

    // "Behind all, in the order of the text: 6 a THING that is not told (its letter; S: where S begins)."
    private static void fault6() {
        for (int told = 0; told <= 5; told++) {
            String things = "thing 1 1 1;".repeat(told);
            char letter = (char) ('a' + told);
            Check.refused(things + "first " + letter + " 1;", 6, things.length() + 6);
            Check.refused(things + "first leaves " + letter + " 1;", 6, things.length() + 13);
            Check.refused(things + "any 1 " + "fabcde".replace(letter, 'f').substring(0, 1) + ";", 6, things.length() + 6);
            Check.refused(things + "any 1 " + "abcdef".substring(0, told + 1) + ";", 6, things.length() + 6);
            taken(things + "any 1 " + "abcdef".substring(0, told + 1) + ";thing 1 1 1;", told + 2);
            taken("first " + letter + " 1;" + things + "thing 1 1 1;", told + 2);
        }
        Check.refused("first c 1 leaves b 1;any 1 a;", 6, 6);
        Check.refused("thing 1 1 1;first a 1 leaves c 1 b 1;", 6, 29);
        Check.refused("thing 1 1 1;second a 1 leaves a 1 b 1;", 6, 34);
        Check.refused("any 1 b;first b 1;thing 1 1 1;", 6, 6);
        Check.refused("first b 1;first c 1;thing 1 1 1;", 6, 6);
        Check.refused("first c 1;first b 1;thing 1 1 1;thing 1 1 1;", 6, 6);
        // All others are met ahead of it.
        Check.refused("first a 1;!", 1, 10);
        Check.refused("first a 1", 2, 9);
        Check.refused("first a 1;again 8;", 3, 16);
        Check.refused("first a 1 a 1;", 4, 10);
        Check.refused("any 1 f;" + EIGHT, 5, 50);
    }

    // "the first met as it is read (a TOKEN is read when the one before has been taken)"
    private static void faultFirstMet() {
        Check.refused("thing 0!", 3, 6);
        Check.refused("thing 1!", 1, 7);
        Check.refused("guest 1 1;guest 1!", 4, 16);
        Check.refused("guest 1 1;guest 2!", 1, 17);
        Check.refused("again 1;again!", 4, 8);
        Check.refused("shop;shop!", 4, 5);
        Check.refused("out 1;out 1!", 4, 10);
        Check.refused("thing 1 1 1;first a 1 a!", 4, 22);
        Check.refused("thing 1 1 1;first a!", 1, 19);
        Check.refused(SIX + "thing!", 5, 72);
        Check.refused(EIGHT + "any!", 5, 48);
        Check.refused("any 1 aa!", 3, 6);
        Check.refused("any 1 a!", 1, 7);
        Check.refused("first wont pp!", 3, 11);
        Check.refused("shop 3 3!", 3, 7);
        Check.refused("nothing!", 2, 0);
        Check.refused("again 9;again 9;!", 3, 6);
        Check.refused("again 0x;", 2, 7);
    }

    // "The FAULT of the latest text(); 0."
    private static void faultOfLatestText() {
        NothingLeft x = new NothingLeft();
        Check.due("ahead of any text", x.fault(), 0);
        String[] texts = { "!", "x", "again 8;", "out 1;out 1;", SIX + "thing", "any 1 a;" };
        for (int i = 0; i < texts.length; i++) {
            Check.text(x, texts[i]);
            Check.due("fault of '" + texts[i] + "'", x.fault(), i + 1);
        }
        Check.feed(x, "again 1;");
        Check.due("it stays till text()", x.fault(), 6);
        x.end(0);
        Check.due("it stays behind end()", x.fault(), 6);
        x.text();
        Check.due("none of an empty text", x.fault(), 0);
        x.end(1);
        Check.due("a call that is refused is none", x.fault(), 0);
    }

    // "A text that is taken tells all, in place of what there was .. the larder is empty, DAY 0, nothing was eaten, THE ROW is empty,
    // IMAGES are gone; SHEETS stay."
    private static void textInPlaceOfWhatThereWas() {
        NothingLeft x = Probe.lived();
        x.end(0);
        int torn = x.torn();
        Check.due("torn of the story", torn, 2);
        Check.due("a text of the same things", Check.text(x, "thing 4 1 1;thing 4 1 1;first;first;first;"), 5);
        Check.due("the larder is empty", x.now(5), 0);
        for (int t = 0; t < 2; t++) {
            for (int age = 0; age <= 3; age++) {
                Check.due("no units", x.has(t, age), 0);
            }
        }
        Check.due("day 0", x.now(0), 0);
        Check.due("nothing was eaten today", x.now(1), NONE);
        Check.due("nothing was paid", x.now(2), 0);
        Check.due("nothing was thrown", x.now(3), 0);
        Check.due("nothing was liked", x.now(4), 0);
        for (int s = 0; s < 3; s++) {
            Check.due("never eaten", x.last(s), NONE);
        }
        Check.due("the row is empty", x.count(2), 0);
        Check.due("images are gone", x.count(3), 0);
        Check.due("image 0 is gone", x.back(0), NothingLeft.STATE);
        Check.due("image 1 is gone", x.back(1), NothingLeft.STATE);
        Check.due("sheet 0 stays", x.count(5), 7);
        Check.due("torn stays", x.torn(), 2);
        Check.due("its cells stay", x.read(0, 0, 0, 2), 2);
        Check.due("told of them", x.has(0, 2), 3);
        Check.due("told of them", x.has(0, 1), 5);
        Check.due("sheet 1 stays", x.read(1, 1, 0, 3), 3);
        Check.due("told of it", x.has(1, 2), 7);
        Check.due("sheet 3 is nothing", x.lay(3, 0, 0), -11);
    }

    // "(what it does not tell is as at first)"
    private static void whatIsNotToldIsAsAtFirst() {
        NothingLeft x = Probe.lived();
        x.end(0);
        Check.due("an empty text", x.text(), 0);
        Check.due("no things", x.count(0), 0);
        Check.due("no suppers", x.count(1), 0);
        Check.due("again", x.rule(0), 0);
        Check.due("every day is a shop", x.rule(1), 127);
        Check.due("nobody is out", x.rule(2), 0);
        for (int w = 0; w < 7; w++) {
            Check.due("no guests", x.rule(10 + w), 0);
        }
        Check.due("no thing", x.thing(0, 0), BAD);
        Check.due("no supper", x.supper(0, 0), BAD);
        Check.due("the row is empty", x.count(2), 0);
        Check.due("images are gone", x.count(3), 0);
        Check.due("day 0", x.now(0), 0);
    }

    // Both, of texts that tell as much as there may be: of the first and the last thing, supper, day.
    private static void nothingOfFullTextsStays() {
        String things = "thing4 4 60;".repeat(6);
        String week = "again7;shop;out0;out1;out2;out3;out4;out5;out6;guest0 4;guest1 4;guest2 4;guest3 4;guest4 4;guest5 4;guest6 4;";
        String[] texts = { things + "first a3b3c3d3e3f3;".repeat(8) + week, things + "second leaves a3b3c3d3e3f3;".repeat(8),
            things + "any9abcdef like9wont pqrs;".repeat(8) };
        int[][] fields = { { 0, 0, 0, 0, 63, 3, 0 }, { 1, 0, 0, 0, 0, 0, 3 }, { 3, 9, 15, 9, 63, 0, 0 } };
        for (int i = 0; i < texts.length; i++) {
            suppersAre("told", Check.told(texts[i]), fields[i]);
            NothingLeft x = Check.told(texts[i]);
            fillAndEat(x);
            Check.due("lines of a text of less", Check.text(x, SIX + "feast;".repeat(8)), 14);
            suppersAre("told anew", x, 2, 0, 0, 0, 0, 0, 0);
            for (int s = 0; s < 8; s++) {
                Check.due("never eaten", x.last(s), NONE);
            }
            for (int t = 0; t < 6; t++) {
                for (int age = 0; age <= 3; age++) {
                    Check.due("no units", x.has(t, age), 0);
                }
            }
            NothingLeft y = Check.told(texts[i]);
            Check.due("lines of a text of nothing", y.text(), 0);
            Check.due("again", y.rule(0), 0);
            Check.due("shops", y.rule(1), 127);
            Check.due("nobody in", y.rule(2), 0);
            for (int w = 0; w < 7; w++) {
                Check.due("guests", y.rule(10 + w), 0);
            }
        }
    }

    private static void suppersAre(String name, NothingLeft x, int... fields) {
        for (int s = 0; s < 8; s++) {
            for (int what = 0; what <= 4; what++) {
                Check.due(name + ", supper " + s + " " + what, x.supper(s, what), fields[what]);
            }
            for (int t = 0; t < 6; t++) {
                Check.due(name + ", supper " + s + " wants " + t, x.supper(s, 10 + t), fields[5]);
                Check.due(name + ", supper " + s + " leaves " + t, x.supper(s, 20 + t), fields[6]);
            }
        }
    }

    private static void fillAndEat(NothingLeft x) {
        for (int s = 0; s < 8; s++) {
            for (int t = 0; t < 6; t++) {
                x.put(t, 0, 9);
            }
            x.eat(s, false);
            x.night();
        }
        for (int t = 0; t < 6; t++) {
            x.put(t, 0, 9);
        }
    }

    // "Of a THING: 0 KEEPS, 1 PACK, 2 PRICE. BAD."; "Of a SUPPER: 0 kind .. 10 and t .. (any: 0); 20 and t"
    private static void thingsAndSuppersAsked() {
        NothingLeft x = Check.told("thing 1 2 3;thing 2 3 0;thing 3 4 60;thing 4 1 1;thing 1 1 1;thing 4 4 4;" + "second;".repeat(6)
            + "first f 3 leaves a 1 like 9 wont s;any 9 fa leaves f 3 wont p;");
        int[][] things = { { 1, 2, 3 }, { 2, 3, 0 }, { 3, 4, 60 }, { 4, 1, 1 }, { 1, 1, 1 }, { 4, 4, 4 } };
        for (int t = 0; t < 6; t++) {
            for (int what = 0; what <= 2; what++) {
                Check.due("thing " + t + ", " + what, x.thing(t, what), things[t][what]);
            }
            Check.due("thing 5 wanted by 6", x.supper(6, 10 + t), t == 5 ? 3 : 0);
            Check.due("thing 0 left by 6", x.supper(6, 20 + t), t == 0 ? 1 : 0);
            Check.due("any wants 0", x.supper(7, 10 + t), 0);
            Check.due("thing 5 left by 7", x.supper(7, 20 + t), t == 5 ? 3 : 0);
        }
        int[][] suppers = { { 0, 9, 8, 0, 32 }, { 3, 0, 1, 9, 33 } };
        for (int what = 0; what <= 4; what++) {
            Check.due("supper 6, " + what, x.supper(6, what), suppers[0][what]);
            Check.due("supper 7, " + what, x.supper(7, what), suppers[1][what]);
            Check.due("supper 0, " + what, x.supper(0, what), what == 0 ? 1 : 0);
        }
        for (int what : new int[] { -1, 5, 6, 9, 16, 17, 19, 26, 27, 30 }) {
            Check.due("supper 6, " + what, x.supper(6, what), BAD);
        }
        for (int t : Check.outside(0, 5)) {
            Check.due("thing " + t, x.thing(t, 0), BAD);
            Check.due("supper 7, 10 + " + t, x.supper(7, 10 + t), BAD);
        }
        for (int s : Check.outside(0, 7)) {
            Check.due("supper " + s, x.supper(s, 0), BAD);
        }
    }

    // "0 again, 1 DAYS of the week that are shops (bits), 2 on which nobody is in (bits); 10 and w .. BAD."
    private static void rulesAsked() {
        NothingLeft x = Check.told("again 7;shop 0 6;out 6;out 0;guest 0 1;guest 6 4;");
        int[] due = { 7, 65, 65 };
        for (int what = 0; what <= 2; what++) {
            Check.due("rule " + what, x.rule(what), due[what]);
        }
        for (int w = 0; w < 7; w++) {
            Check.due("guests " + w, x.rule(10 + w), w == 0 ? 1 : w == 6 ? 4 : 0);
        }
        for (int what : new int[] { -1, 3, 9, 17, 42 }) {
            Check.due("rule " + what, x.rule(what), BAD);
        }
        for (int what : Check.outside(0, 16)) {
            Check.due("rule " + what, x.rule(what), BAD);
        }
    }
}
