/** Promises 1 to 8: a new object, and what a text tells. */
public final class TextTest {
    private static final int BAD = NothingLeft.BAD, FULL = NothingLeft.FULL, NONE = NothingLeft.NONE;

    public static void main(String[] args) {
        newObject();
        feed();
        end();
        text();
        textTellsAllAnew();
        tokens();
        faultsOfLines();
        faultsOfSuppers();
        faultsOfWeek();
        faultsOfTooMany();
        faultsOfThingsNotTold();
        faultsInOrder();
        faultsBehindFaults();
        fault();
        thing();
        supper();
        rule();
        Check.finish("TextTest");
    }

    private static void newObject() {
        NothingLeft x = new NothingLeft();
        for (int what = 0; what <= 4; what++) {
            Check.due("new: count " + what, x.count(what), 0);
        }
        Check.due("new: sheet 0", x.count(5), NONE);
        Check.due("new: again", x.rule(0), 0);
        Check.due("new: shops", x.rule(1), 127);
        Check.due("new: outs", x.rule(2), 0);
        for (int w = 0; w < 7; w++) {
            Check.due("new: guests", x.rule(10 + w), 0);
        }
        Check.due("new: fault", x.fault(), 0);
        Check.due("new: torn", x.torn(), 0);
        Check.due("new: day", x.now(0), 0);
        Check.due("new: eaten", x.now(1), NONE);
        for (int what = 2; what <= 5; what++) {
            Check.due("new: now " + what, x.now(what), 0);
        }
        Check.due("new: no thing", x.thing(0, 0), BAD);
        Check.due("new: no supper", x.supper(0, 0), BAD);
        Check.due("new: no image", x.back(0), NothingLeft.STATE);
        for (int k = 0; k < 4; k++) {
            Check.due("new: sheet of nothing", x.lay(k, 0, 0), -11);
        }
        Check.due("new: dish", x.dish(1), NONE);
        Check.due("new: best", x.best(1, 0), NONE);
        Check.due("new: best, rows", x.best(5, 4), 0);
        Check.due("new: shortest", x.shortest(), NONE);
        Check.due("new: night", x.night(), 0);
        Check.due("new: row", x.row(0), NONE);
        Check.due("new: bears", x.bears(1), 1);
    }

    private static void feed() {
        NothingLeft x = new NothingLeft();
        // "again 7;", the highest byte first.
        Check.due("feed", x.feed(0x616761696e20373bL), 8);
        Check.due("text of it", x.text(), 1);
        Check.due("again of it", x.rule(0), 7);
        for (int i = 1; i <= 50; i++) {
            Check.due("feed " + i, x.feed(0x2020202020202020L), 8 * i);
        }
        Check.due("feed above 400", x.feed(0), FULL);
        Check.due("400 bytes stay", x.count(4), 400);
        Check.due("end(393)", x.end(393), 400);
        Check.due("feed above 400 from 393", x.feed(0), FULL);
        Check.due("end(392)", x.end(392), 393);
        Check.due("feed up to 400", x.feed(0x616761696e20353bL), 400);
        Check.due("text of 400 bytes", x.text(), 1);
        Check.due("again at its end", x.rule(0), 5);
        Check.due("feed behind text", x.feed(-1L), 8);
        Check.due("bytes of 255 are no token", x.text(), -10);
        Check.due("their fault", x.fault(), 1);
    }

    private static void end() {
        NothingLeft x = new NothingLeft();
        Check.due("end(0) of none", x.end(0), 0);
        Check.due("end(1) of none", x.end(1), BAD);
        x.feed(0x616761696e20373bL);
        Check.due("end(-1)", x.end(-1), BAD);
        Check.due("end(9)", x.end(9), BAD);
        Check.due("nothing changed", x.count(4), 8);
        Check.due("end(8)", x.end(8), 8);
        Check.due("end(5)", x.end(5), 8);
        Check.due("five bytes", x.count(4), 5);
        Check.due("text cut off", x.text(), -15);
        Check.feed(x, "out 1;outs");
        x.end(9);
        Check.due("a name cut off", x.text(), -19);
        Check.feed(x, "again 123");
        x.end(8);
        Check.due("a number cut off", x.text(), -16);
        Check.due("its fault", x.fault(), 3);
        x.feed(0x616761696e20373bL);
        x.end(6);
        Check.due("feed behind the six", x.feed(0x333b202020202020L), 14);
        Check.due("text put together", x.text(), 1);
        Check.due("again put together", x.rule(0), 3);
    }

    private static void text() {
        NothingLeft x = new NothingLeft();
        Check.due("no text", x.text(), 0);
        Check.due("blanks", Check.text(x, "     "), 0);
        Check.due("every line", Check.text(x, "thing 1 2 3;first;second;feast;any 1 a;again 1;shop;out 1;guest 1 1;"), 9);
        Check.due("no fault", x.fault(), 0);
        Check.due("tape is empty", x.count(4), 0);
        Check.due("text again is empty", x.text(), 0);
        Check.due("and tells nothing", x.count(0) + x.count(1), 0);
        Check.due("things behind their use", Check.text(x, "first a 1 leaves b 2;any 3 ba;thing 1 1 1;thing 2 2 2;"), 4);
        Check.due("most things and suppers", Check.text(x, "thing 1 1 0;thing 1 1 0;thing 1 1 0;thing 1 1 0;thing 1 1 0;"
            + "thing 4 4 60;first a1b2c3d1e2f3;second;feast;any 9 fedcba;first;first;first;first leaves a3b3c3d3e3f3 like 9 wont srqp;"), 14);
        Check.due("all things in a soup", x.supper(3, 4), 63);
    }

    private static void textTellsAllAnew() {
        NothingLeft x = Check.told("thing 4 2 5;thing 3 1 1;first a 2 leaves b 1 like 3 wont p;second;again 4;shop 1;out 6;guest 2 3;");
        x.sheet(0, 1, 3);
        x.read(1, 0, 0, 1);
        x.night();
        x.put(0, 2, 5);
        x.eat(0, false);
        x.eat(1, false);
        x.keep(0);
        x.keep(1);
        x.day(0);
        Check.due("another text", Check.text(x, "thing 4 1 1;second a 1;first;"), 3);
        Check.due("things", x.count(0), 1);
        Check.due("suppers", x.count(1), 2);
        Check.due("row", x.count(2), 0);
        Check.due("images", x.count(3), 0);
        Check.due("image 0", x.back(0), NothingLeft.STATE);
        Check.due("image 1", x.back(1), NothingLeft.STATE);
        Check.due("sheets stay", x.count(5), 3);
        Check.due("torn stays", x.torn(), 1);
        Check.due("again", x.rule(0), 0);
        Check.due("shops", x.rule(1), 127);
        Check.due("outs", x.rule(2), 0);
        Check.due("guests", x.rule(12), 0);
        Check.due("day", x.now(0), 0);
        Check.due("eaten", x.now(1), NONE);
        for (int what = 2; what <= 5; what++) {
            Check.due("now " + what, x.now(what), 0);
        }
        Check.due("last", x.last(0), NONE);
        Check.due("last", x.last(1), NONE);
        for (int age = 0; age < 4; age++) {
            Check.due("larder", x.has(0, age), 0);
        }
        Check.due("wants of old are gone", x.supper(1, 10), 0);
        Check.due("likes of old are gone", x.supper(0, 1), 0);
        Check.due("wont of old is gone", x.supper(0, 2), 0);
        Check.due("leaves of old are gone", x.supper(0, 20), 0);
        Check.text(x, "first leaves a1b2c3d1e2f3;second leaves a1b2c3d1e2f3;guest 0 2;thing 4 1 1;thing 4 1 1;thing 4 1 1;thing 4 1 1;thing 4 1 1;thing 4 1 1;");
        for (int t = 0; t < 6; t++) {
            for (int age = 0; age < 4; age++) {
                x.put(t, age, 9);
            }
        }
        Check.due("a second shop", Check.text(x, "shop 3;"), 1);
        Check.due("a third shop", Check.text(x, "first;second;shop 4;thing 4 1 1;thing 4 1 1;thing 4 1 1;thing 4 1 1;thing 4 1 1;thing 4 1 1;"), 9);
        Check.due("no guests on day 0", x.rule(10), 0);
        Check.due("larder of all is empty", x.now(5), 0);
        for (int t = 0; t < 6; t++) {
            Check.due("first leaves nothing", x.supper(0, 20 + t), 0);
            Check.due("second leaves nothing", x.supper(1, 20 + t), 0);
            for (int age = 0; age < 4; age++) {
                Check.due("larder", x.has(t, age), 0);
            }
        }
        Check.text(x, "any 5 a;thing 1 1 1;");
        Check.text(x, "first;thing 1 1 1;");
        Check.due("units of an old soup are gone", x.supper(0, 3), 0);
        Check.due("things of an old soup are gone", x.supper(0, 4), 0);
    }

    private static void tokens() {
        NothingLeft x = new NothingLeft();
        Check.due("no blanks where none is needed", Check.text(x, "thing4 3 2;first a3leaves a2like 9wont ps;"), 2);
        Check.due("wants", x.supper(0, 10), 3);
        Check.due("leaves", x.supper(0, 20), 2);
        Check.due("like", x.supper(0, 1), 9);
        Check.due("wont", x.supper(0, 2), 9);
        Check.due("blanks everywhere", Check.text(x, "   thing   04  3   02   ;   "), 1);
        Check.due("keeps", x.thing(0, 0), 4);
        Check.due("price", x.thing(0, 2), 2);
        Check.refused("again 007;", 1, 6);
        Check.refused("again 100000000000000000000;", 1, 6);
        Check.refused("again 256;", 1, 6);
        Check.refused("Again 1;", 1, 0);
        Check.refused("again 1,", 1, 7);
        Check.refused("again 1;\n", 1, 8);
        Check.refused("again 1; \u00e9", 1, 9);
        Check.refused("again -1;", 1, 6);
        Check.refused("again \u0000;", 1, 6);
        Check.refused("`", 1, 0);
        Check.refused("{", 1, 0);
        Check.refused("/", 1, 0);
        Check.refused(":", 1, 0);
    }

    private static void faultsOfLines() {
        Check.refused("x", 2, 0);
        Check.refused("again 1;things 1 1 1;", 2, 8);
        Check.refused("again 1;thin 1 1 1;", 2, 8);
        Check.refused("again 1;leaves a 1;", 2, 8);
        Check.refused("7", 2, 0);
        Check.refused(" ;", 2, 1);
        Check.refused("again 1;;", 2, 8);
        Check.refused("againagain 1;", 2, 0);
        Check.refused("xgain 1;", 2, 0);
        Check.refused("agaix 1;", 2, 0);
        Check.refused("thing", 2, 5);
        Check.refused("thing   ", 2, 8);
        Check.refused("thing;", 2, 5);
        Check.refused("thing a 1 1;", 2, 6);
        Check.refused("thing 1 1 1", 2, 11);
        Check.refused("thing 1 1 1 1;", 2, 12);
        Check.refused("thing 1 1 1 first;", 2, 12);
        Check.refused("thing 0 1 1;", 3, 6);
        Check.refused("thing 5 1 1;", 3, 6);
        Check.refused("thing 1 0 1;", 3, 8);
        Check.refused("thing 1 5 1;", 3, 8);
        Check.refused("thing 1 1 61;", 3, 10);
        Check.due("edges of a thing", Check.told("thing 1 1 0;thing 4 4 60;").count(0), 2);
    }

    private static void faultsOfSuppers() {
        Check.refused("thing 1 1 1;first g 1;", 3, 18);
        Check.refused("thing 1 1 1;first aa 1;", 3, 18);
        Check.refused("thing 1 1 1;first first 1;", 3, 18);
        Check.refused("thing 1 1 1;first a 0;", 3, 20);
        Check.refused("thing 1 1 1;first a 4;", 3, 20);
        Check.refused("thing 1 1 1;second a;", 2, 20);
        Check.refused("thing 1 1 1;second 1;", 2, 19);
        Check.refused("thing 1 1 1;feast a 1 a 1;", 4, 22);
        Check.refused("thing 1 1 1;feast a 1 1;", 2, 22);
        Check.refused("thing 1 1 1;feast a 1", 2, 21);
        Check.refused("first leaves 1;", 2, 13);
        Check.refused("first leaves z 1;", 3, 13);
        Check.refused("first leaves leaves;", 3, 13);
        Check.refused("thing 1 1 1;second a 1 leaves a 2 leaves;", 3, 34);
        Check.refused("thing 1 1 1;any 1 a leaves a 1 leaves a 1;", 3, 31);
        Check.refused("first leaves like 1 leaves;", 2, 20);
        Check.refused("first wont p leaves;", 2, 13);
        Check.refused("any 1 a b leaves;", 2, 8);
        Check.refused("first a 1 leaves a 1 a 1;thing 1 1 1;", 4, 21);
        Check.refused("first a 1 leaves a 4;thing 1 1 1;", 3, 19);
        Check.refused("first like;", 2, 10);
        Check.refused("first like 10;", 3, 11);
        Check.refused("first like a;", 2, 11);
        Check.refused("first like 1 leaves a 1;", 2, 13);
        Check.refused("first like 1 like 1;", 2, 13);
        Check.refused("first like 1 2;", 2, 13);
        Check.refused("first wont;", 2, 10);
        Check.refused("first wont 1;", 2, 11);
        Check.refused("first wont o;", 3, 11);
        Check.refused("first wont t;", 3, 11);
        Check.refused("first wont pp;", 3, 11);
        Check.refused("first wont pqrsp;", 3, 11);
        Check.refused("first wont p q;", 2, 13);
        Check.refused("first wont p like 1;", 2, 13);
        Check.refused("any;", 2, 3);
        Check.refused("any 0 a;", 3, 4);
        Check.refused("any 10 a;", 3, 4);
        Check.refused("any a 3;", 2, 4);
        Check.refused("any 3;", 2, 5);
        Check.refused("any 3 4;", 2, 6);
        Check.refused("any 3 aa;", 3, 6);
        Check.refused("any 3 ag;", 3, 6);
        Check.refused("any 3 a b;", 2, 8);
        Check.refused("any 3 a 1;", 2, 8);
        Check.due("wants and leaves of the same thing", Check.told("first a 1 leaves a 1;second a1;thing 1 1 1;").count(1), 2);
    }

    private static void faultsOfWeek() {
        Check.refused("again;", 2, 5);
        Check.refused("again 8;", 3, 6);
        Check.refused("again 1 1;", 2, 8);
        Check.refused("again 0;again 0;", 4, 8);
        Check.refused("shop a;", 2, 5);
        Check.refused("shop 7;", 3, 5);
        Check.refused("shop 3 3;", 3, 7);
        Check.refused("shop 3 2;", 3, 7);
        Check.refused("shop 0 1 2 3 4 5 6 0;", 3, 19);
        Check.refused("shop 0", 2, 6);
        Check.refused("shop;shop;", 4, 5);
        Check.refused("out;", 2, 3);
        Check.refused("out 7;", 3, 4);
        Check.refused("out 1 2;", 2, 6);
        Check.refused("out 1;out 1;", 4, 10);
        Check.refused("guest 7 1;", 3, 6);
        Check.refused("guest 1;", 2, 7);
        Check.refused("guest 1 0;", 3, 8);
        Check.refused("guest 1 5;", 3, 8);
        Check.refused("guest 1 1 1;", 2, 10);
        Check.refused("guest 1 1;guest 1 1;", 4, 16);
        Check.due("out and guest of one day", Check.told("out 3;guest 3 4;out 0;guest 0 1;").rule(2), 9);
    }

    private static void faultsOfTooMany() {
        String six = "thing 1 1 1;thing 1 1 1;thing 1 1 1;thing 1 1 1;thing 1 1 1;thing 1 1 1;";
        Check.refused(six + "thing", 5, 72);
        Check.refused(six + "  thing 1 1 1;", 5, 74);
        String eight = "first;second;feast;any 1 a;first;second;feast;any 1 a;";
        Check.refused(eight + "first;", 5, 54);
        Check.refused(eight + "second;", 5, 54);
        Check.refused(eight + "feast;", 5, 54);
        Check.refused(eight + "any 1 a;", 5, 54);
        Check.due("six and eight", Check.told(six + eight).count(1), 8);
    }

    private static void faultsOfThingsNotTold() {
        Check.refused("first a 1;", 6, 6);
        Check.refused("any 1 a;", 6, 6);
        Check.refused("any 1 f;", 6, 6);
        Check.refused("thing 1 1 1;first a 1 b 1;", 6, 22);
        Check.refused("thing 1 1 1;first leaves a 1 b 1;", 6, 29);
        Check.refused("thing 1 1 1;any 1 acb;", 6, 18);
        Check.refused("any 1 b;first a 1;thing 1 1 1;", 6, 6);
        Check.refused("first a 1 f 1 b 1;thing 1 1 1;", 6, 10);
        Check.refused("first b 1;any 2 b;first b 2;thing 1 1 1;", 6, 6);
        Check.refused("first b 1;again 8;", 3, 16);
    }

    private static void faultsInOrder() {
        Check.refused("again 9 %", 3, 6);
        Check.refused("again 1 %", 1, 8);
        Check.refused("first a 1 a 999;", 4, 10);
        Check.refused("first a 1 a", 4, 10);
        Check.refused("out 1;out 1 %", 4, 10);
        Check.refused("guest 1 1;guest 1 999;", 4, 16);
        Check.refused("again 1;again 999;", 4, 8);
        Check.refused("any 1 aa %", 3, 6);
        Check.refused("xyz %", 2, 0);
        Check.refused("thing 1 1 %", 1, 10);
    }

    /** From each token on, all are none: the first of them is the fault. */
    private static void faultsBehindFaults() {
        String[] tokens = ("thing 1 2 3 ; any 3 a leaves a 1 like 1 wont p ; first a 1 leaves a 2 like 3 wont qr ; again 4 ; shop 1 2 ; "
            + "out 1 ; guest 2 3 ;").split(" ");
        for (int i = 0; i < tokens.length; i++) {
            StringBuilder text = new StringBuilder();
            int place = 0;
            for (int j = 0; j < tokens.length; j++) {
                place = j == i ? text.length() : place;
                text.append(j < i ? tokens[j] : "000").append(' ');
            }
            Check.refused(text.toString(), 1, place);
        }
    }

    private static void fault() {
        NothingLeft x = new NothingLeft();
        Check.text(x, "again 8;");
        Check.due("fault", x.fault(), 3);
        Check.due("fault is asked again", x.fault(), 3);
        x.feed(0);
        Check.due("fault stays till text", x.fault(), 3);
        x.end(0);
        Check.text(x, "again 7;");
        Check.due("no fault", x.fault(), 0);
    }

    private static void thing() {
        NothingLeft x = Check.told("thing 3 2 50;thing 1 4 0;");
        Check.due("keeps", x.thing(0, 0), 3);
        Check.due("pack", x.thing(0, 1), 2);
        Check.due("price", x.thing(0, 2), 50);
        Check.due("keeps", x.thing(1, 0), 1);
        Check.due("pack", x.thing(1, 1), 4);
        Check.due("price", x.thing(1, 2), 0);
        Check.due("what below", x.thing(0, -1), BAD);
        Check.due("what above", x.thing(0, 3), BAD);
        Check.due("no such thing", x.thing(2, 0), BAD);
        Check.due("no such thing", x.thing(-1, 0), BAD);
        Check.due("no such thing", x.thing(Integer.MIN_VALUE, 0), BAD);
    }

    private static void supper() {
        NothingLeft x = Check.told("thing 1 1 1;thing 1 1 1;thing 1 1 1;first a 3 c 1 leaves b 2 like 4 wont q;"
            + "second b 2;feast c 3 wont sp;any 7 ca leaves c 3 like 1;");
        int[][] due = {
            { 0, 4, 2, 0, 5, 3, 0, 1, 0, 2, 0 },
            { 1, 0, 0, 0, 2, 0, 2, 0, 0, 0, 0 },
            { 2, 0, 9, 0, 4, 0, 0, 3, 0, 0, 0 },
            { 3, 1, 0, 7, 5, 0, 0, 0, 0, 0, 3 } };
        int[] asked = { 0, 1, 2, 3, 4, 10, 11, 12, 20, 21, 22 };
        for (int s = 0; s < due.length; s++) {
            for (int i = 0; i < asked.length; i++) {
                Check.due("supper " + s + ", " + asked[i], x.supper(s, asked[i]), due[s][i]);
            }
        }
        for (int what : new int[] { -1, 5, 9, 13, 15, 19, 23, 25, 26, Integer.MAX_VALUE, Integer.MIN_VALUE }) {
            Check.due("supper 0, " + what, x.supper(0, what), BAD);
        }
        Check.due("no such supper", x.supper(4, 0), BAD);
        Check.due("no such supper", x.supper(-1, 0), BAD);
    }

    private static void rule() {
        NothingLeft x = Check.told("again 6;shop 0 2 6;out 6;out 1;guest 0 1;guest 6 4;guest 3 2;");
        Check.due("again", x.rule(0), 6);
        Check.due("shops", x.rule(1), 69);
        Check.due("outs", x.rule(2), 66);
        int[] chances = { 1, 0, 0, 2, 0, 0, 4 };
        for (int w = 0; w < 7; w++) {
            Check.due("guests " + w, x.rule(10 + w), chances[w]);
        }
        for (int what : new int[] { -1, 3, 9, 17, Integer.MAX_VALUE, Integer.MIN_VALUE }) {
            Check.due("rule " + what, x.rule(what), BAD);
        }
        Check.due("no shop at all", Check.told("shop;").rule(1), 0);
        Check.due("every shop told", Check.told("shop 0 1 2 3 4 5 6;").rule(1), 127);
    }
}
