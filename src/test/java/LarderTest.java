/** Promises 9 to 18: the larder, day by day. */
public final class LarderTest {
    private static final int BAD = NothingLeft.BAD, STATE = NothingLeft.STATE, NONE = NothingLeft.NONE;

    public static void main(String[] args) {
        put();
        has();
        mayByDay();
        mayByAgain();
        mayByWhatIsLacking();
        mayWrong();
        guestsWantMore();
        lacks();
        lacksOfSoup();
        eat();
        eatRefused();
        eatOldestFirst();
        eatSoup();
        night();
        now();
        last();
        keepAndBack();
        keepAll();
        Check.finish("LarderTest");
    }

    private static void put() {
        NothingLeft x = Check.told("thing 1 1 1;thing 4 1 1;");
        Check.due("put", x.put(1, 3, 9), 0);
        Check.due("put what it was", x.put(1, 3, 4), 9);
        Check.due("put none", x.put(1, 3, 0), 4);
        Check.due("put at another age", x.put(1, 0, 2), 0);
        Check.due("put of another thing", x.put(0, 0, 3), 0);
        Check.due("age of keeps", x.put(0, 1, 1), BAD);
        Check.due("age 4", x.put(1, 4, 1), BAD);
        Check.due("age below", x.put(1, -1, 1), BAD);
        Check.due("units above", x.put(1, 0, 10), BAD);
        Check.due("units below", x.put(1, 0, -1), BAD);
        Check.due("no such thing", x.put(2, 0, 1), BAD);
        Check.due("no such thing", x.put(-1, 0, 1), BAD);
        Check.due("wrong ones change nothing", x.now(5), 5);
        Check.due("nothing told", new NothingLeft().put(0, 0, 1), BAD);
    }

    private static void has() {
        NothingLeft x = Check.told("thing 1 1 1;thing 4 1 1;");
        x.put(1, 2, 7);
        Check.due("has", x.has(1, 2), 7);
        Check.due("has not", x.has(1, 3), 0);
        Check.due("has at an age it can't have", x.has(0, 3), 0);
        Check.due("age below", x.has(1, -1), BAD);
        Check.due("age above", x.has(1, 4), BAD);
        Check.due("no such thing", x.has(2, 0), BAD);
        Check.due("no such thing", x.has(-1, 0), BAD);
        Check.due("extremes", x.has(Integer.MAX_VALUE, Integer.MIN_VALUE), BAD);
    }

    private static void mayByDay() {
        NothingLeft x = Check.told("thing 1 1 1;first a 1;second a 1;out 1;shop 0 6;");
        Check.due("day 0", x.may(0, false), 0);
        x.eat(0, false);
        x.night();
        Check.due("nobody in", x.may(0, false), 1);
        Check.due("nobody in, first of all reasons", x.may(1, false), 1);
        x.night();
        Check.due("no shop on day 2", x.may(0, false), 3);
        x.put(0, 0, 1);
        Check.due("no shop, but none is wanted", x.may(0, false), 0);
        for (int day = 3; day <= 6; day++) {
            x.night();
        }
        Check.due("shop on day 6", x.may(0, false), 0);
        Check.due("second buys nothing", x.may(1, false), 3);
        x.night();
        Check.due("day 7 is a shop, too", x.may(0, false), 0);
        x.night();
        Check.due("nobody in on day 8", x.may(0, false), 1);
    }

    private static void mayByAgain() {
        NothingLeft x = Check.told("first;second;again 2;");
        Check.due("never eaten", x.may(0, false), 0);
        x.eat(0, false);
        Check.due("on the same day", x.may(0, false), 2);
        Check.due("another one", x.may(1, false), 0);
        x.night();
        Check.due("a day after", x.may(0, false), 2);
        x.night();
        Check.due("two days after", x.may(0, false), 0);
        NothingLeft y = Check.told("first;");
        y.eat(0, false);
        Check.due("again 0", y.may(0, false), 0);
        NothingLeft z = Check.told("first;second leaves a 1;thing 1 1 0;second a 1;again 7;");
        z.eat(0, false);
        for (int day = 1; day <= 6; day++) {
            z.night();
            Check.due("too soon on day " + day, z.may(0, false), 2);
        }
        z.night();
        Check.due("not on day 7", z.may(0, false), 0);
        z.put(0, 0, 1);
        z.eat(2, false);
        Check.due("too soon is ahead of lacking", z.may(2, false), 2);
    }

    private static void mayByWhatIsLacking() {
        NothingLeft x = Check.told("thing 2 1 1;thing 2 1 0;first a 3;first a 1 b 1;second a 1;feast a 2;feast b 1;any 2 ab;shop 0;");
        int[] empty = { 0, 3, 3, 0, 3, 3 };
        for (int s = 0; s < 6; s++) {
            Check.due("empty larder, " + s, x.may(s, false), empty[s]);
        }
        x.put(1, 1, 1);
        int[] one = { 0, 0, 3, 0, 0, 3 };
        for (int s = 0; s < 6; s++) {
            Check.due("one b, " + s, x.may(s, false), one[s]);
        }
        x.put(0, 0, 1);
        int[] both = { 0, 0, 0, 0, 0, 0 };
        for (int s = 0; s < 6; s++) {
            Check.due("one of each, " + s, x.may(s, false), both[s]);
        }
        int[] guests = { 0, 3, 3, 0, 0, 3 };
        for (int s = 0; s < 6; s++) {
            Check.due("one of each, guests, " + s, x.may(s, true), guests[s]);
        }
    }

    private static void mayWrong() {
        NothingLeft x = Check.told("first;");
        Check.due("no such supper", x.may(1, false), BAD);
        Check.due("no such supper", x.may(-1, true), BAD);
        Check.due("NONE is no supper", x.may(NONE, true), BAD);
        Check.due("nothing told", new NothingLeft().may(0, false), BAD);
    }

    private static void guestsWantMore() {
        NothingLeft x = Check.told("thing 4 1 1;thing 4 1 1;first a 2;second b 1;feast a 3;any 4 ab;first;");
        int[][] lacking = { { 3, 0 }, { 0, 2 }, { 3, 0 }, { 5, 5 }, { 0, 0 } };
        int[][] without = { { 2, 0 }, { 0, 1 }, { 3, 0 }, { 4, 4 }, { 0, 0 } };
        for (int s = 0; s < 5; s++) {
            for (int t = 0; t < 2; t++) {
                Check.due("with guests, " + s + " of " + t, x.lacks(s, true, t, 0), lacking[s][t]);
                Check.due("without, " + s + " of " + t, x.lacks(s, false, t, 0), without[s][t]);
            }
        }
        Check.due("eaten with guests", x.eat(0, true), 3);
    }

    private static void lacks() {
        NothingLeft x = Check.told("thing 4 3 5;thing 4 2 0;first a 3 b 2 leaves a 3;second a 3;feast a 1;shop 0;out 6;");
        Check.due("lacking", x.lacks(0, true, 0, 0), 4);
        Check.due("packs, the fewest", x.lacks(0, true, 0, 1), 2);
        Check.due("packs that are just enough", x.lacks(0, false, 0, 1), 1);
        Check.due("taken of an empty larder", x.lacks(0, false, 0, 2), 0);
        Check.due("no pack without a price", x.lacks(0, false, 1, 1), 0);
        Check.due("no pack by a second", x.lacks(1, false, 0, 1), 0);
        Check.due("a pack by a feast", x.lacks(2, true, 0, 1), 1);
        x.put(0, 1, 2);
        x.put(0, 0, 9);
        Check.due("nothing lacking", x.lacks(0, false, 0, 0), 0);
        Check.due("no pack", x.lacks(0, false, 0, 1), 0);
        Check.due("taken", x.lacks(0, false, 0, 2), 3);
        Check.due("taken with guests", x.lacks(0, true, 0, 2), 4);
        x.put(0, 0, 0);
        Check.due("some lacking", x.lacks(0, false, 0, 0), 1);
        Check.due("some taken", x.lacks(0, false, 0, 2), 2);
        Check.due("of a thing not wanted", x.lacks(1, true, 1, 0), 0);
        Check.due("asked, nothing changed", x.now(5), 2);
        x.night();
        Check.due("no pack on a day of no shop", x.lacks(0, false, 0, 1), 0);
        Check.due("lacking there", x.lacks(0, false, 0, 0), 1);
        for (int what : new int[] { -1, 3, Integer.MAX_VALUE }) {
            Check.due("what " + what, x.lacks(0, false, 0, what), BAD);
        }
        Check.due("no such supper", x.lacks(3, false, 0, 0), BAD);
        Check.due("no such supper", x.lacks(-1, false, 0, 0), BAD);
        Check.due("no such thing", x.lacks(0, false, 2, 0), BAD);
        Check.due("no such thing", x.lacks(0, false, -1, 0), BAD);
    }

    private static void lacksOfSoup() {
        NothingLeft x = Check.told("thing 4 1 1;thing 4 1 1;thing 4 1 1;any 4 ca;");
        x.put(1, 3, 9);
        Check.due("lacking of all", x.lacks(0, false, 0, 0), 4);
        Check.due("lacking of all", x.lacks(0, false, 2, 0), 4);
        Check.due("of a thing not in it", x.lacks(0, false, 1, 0), 0);
        Check.due("none of it is taken", x.lacks(0, false, 1, 2), 0);
        Check.due("no pack", x.lacks(0, false, 0, 1), 0);
        x.put(0, 1, 2);
        x.put(2, 1, 2);
        x.put(2, 2, 1);
        Check.due("nothing lacking", x.lacks(0, false, 0, 0), 0);
        Check.due("lesser thing of the same age", x.lacks(0, false, 0, 2), 2);
        Check.due("asked again", x.lacks(0, false, 0, 2), 2);
        Check.due("oldest first, then what is open", x.lacks(0, false, 2, 2), 2);
        Check.due("guests", x.lacks(0, true, 2, 2), 3);
        x.put(0, 1, 1);
        Check.due("lacking with guests", x.lacks(0, true, 2, 0), 1);
        Check.due("what there is would be taken", x.lacks(0, true, 2, 2), 3);
    }

    private static void eat() {
        NothingLeft x = Check.told("thing 4 4 7;thing 3 2 10;first a 3 b 3 leaves a 2 like 6;feast a 1 b 3 like 2;second a 1 like 1;");
        x.put(0, 2, 1);
        Check.due("paid", x.eat(0, false), 7 + 20);
        Check.due("the old one is eaten", x.has(0, 2), 0);
        Check.due("rest of the pack, and what is left", x.has(0, 0), 2 + 2);
        Check.due("rest of two packs", x.has(1, 0), 1);
        Check.due("eaten today", x.now(1), 0);
        Check.due("paid in all", x.now(2), 27);
        Check.due("liked in all", x.now(4), 6);
        x.night();
        Check.due("a feast with guests buys as it is", x.eat(1, true), 10);
        Check.due("one taken", x.has(0, 1), 3);
        Check.due("all taken", x.has(1, 1) + x.has(1, 0), 0);
        x.night();
        Check.due("a second costs nothing", x.eat(2, true), 0);
        Check.due("with guests it takes two", x.has(0, 2), 1);
        Check.due("paid in all", x.now(2), 37);
        Check.due("liked in all", x.now(4), 9);
    }

    private static void eatRefused() {
        NothingLeft x = Check.told("thing 4 1 0;first;second a 1;again 1;out 1;");
        Check.due("no such supper", x.eat(2, false), BAD);
        Check.due("no such supper", x.eat(-1, false), BAD);
        Check.due("NONE", x.eat(NONE, false), BAD);
        Check.due("lacking", x.eat(1, false), STATE);
        Check.due("nothing was eaten", x.now(1), NONE);
        Check.due("nothing is last", x.last(1), NONE);
        Check.due("one", x.eat(0, false), 0);
        x.put(0, 0, 9);
        Check.due("there was one today", x.eat(1, false), STATE);
        Check.due("nothing taken", x.now(5), 9);
        Check.due("no such supper, ahead of that", x.eat(7, false), BAD);
        x.night();
        Check.due("nobody in", x.eat(1, false), STATE);
        x.night();
        Check.due("the next one", x.eat(1, false), 0);
    }

    private static void eatOldestFirst() {
        NothingLeft x = Check.told("thing 4 1 1;second a 3;first a 3;");
        x.put(0, 3, 1);
        x.put(0, 1, 1);
        x.put(0, 0, 4);
        x.eat(0, false);
        Check.due("oldest", x.has(0, 3), 0);
        Check.due("older", x.has(0, 1), 0);
        Check.due("youngest", x.has(0, 0), 3);
    }

    private static void eatSoup() {
        NothingLeft x = Check.told("thing 4 1 1;thing 4 1 1;thing 4 1 1;any 3 abc leaves c 2 like 3;");
        x.put(0, 0, 1);
        x.put(1, 0, 2);
        x.put(2, 3, 1);
        Check.due("a soup costs nothing", x.eat(0, false), 0);
        Check.due("oldest", x.has(2, 3), 0);
        Check.due("lesser thing first", x.has(0, 0), 0);
        Check.due("the last one of the other", x.has(1, 0), 1);
        Check.due("what it leaves", x.has(2, 0), 2);
        Check.due("liked", x.now(4), 3);
    }

    private static void night() {
        NothingLeft x = Check.told("thing 4 1 1;thing 1 1 1;thing 2 1 1;first;");
        for (int age = 0; age < 4; age++) {
            x.put(0, age, age + 1);
        }
        x.put(1, 0, 5);
        x.put(2, 0, 7);
        x.put(2, 1, 9);
        x.eat(0, false);
        Check.due("thrown", x.night(), 4 + 5 + 9);
        int[] ages = { 0, 1, 2, 3 };
        for (int age = 0; age < 4; age++) {
            Check.due("age " + age, x.has(0, age), ages[age]);
        }
        Check.due("none of what keeps a night", x.has(1, 0) + x.has(1, 1), 0);
        Check.due("older", x.has(2, 1), 7);
        Check.due("no age above", x.has(2, 2), 0);
        Check.due("next day", x.now(0), 1);
        Check.due("nothing eaten on it", x.now(1), NONE);
        Check.due("thrown", x.night(), 3 + 7);
        Check.due("thrown in all", x.now(3), 28);
    }

    private static void now() {
        NothingLeft x = Check.told("thing 2 2 9;first a 1 like 4;again 0;");
        int[] first = { 0, NONE, 0, 0, 0, 0 };
        int[] eaten = { 0, 0, 9, 0, 4, 1 };
        int[] behind = { 2, NONE, 9, 1, 4, 0 };
        nowIs(x, first);
        x.eat(0, true);
        nowIs(x, new int[] { 0, 0, 9, 0, 4, 0 });
        NothingLeft y = Check.told("thing 2 2 9;first a 1 like 4;again 0;");
        y.eat(0, false);
        nowIs(y, eaten);
        y.night();
        y.night();
        nowIs(y, behind);
        for (int what : new int[] { -1, 6, Integer.MAX_VALUE, Integer.MIN_VALUE }) {
            Check.due("now " + what, y.now(what), BAD);
        }
    }

    private static void nowIs(NothingLeft x, int[] due) {
        for (int what = 0; what < due.length; what++) {
            Check.due("now " + what, x.now(what), due[what]);
        }
    }

    private static void last() {
        NothingLeft x = Check.told("first;second;");
        Check.due("never", x.last(0), NONE);
        x.eat(0, false);
        x.night();
        x.eat(1, false);
        x.night();
        x.eat(1, false);
        Check.due("day 0", x.last(0), 0);
        Check.due("day 2", x.last(1), 2);
        Check.due("no such supper", x.last(2), BAD);
        Check.due("no such supper", x.last(-1), BAD);
    }

    private static void keepAndBack() {
        NothingLeft x = Check.told("thing 4 2 3;first a 1 like 2;second like 5;again 2;");
        Check.due("image 2", x.keep(2), BAD);
        Check.due("image -1", x.keep(-1), BAD);
        Check.due("image 2", x.back(2), BAD);
        Check.due("image -1", x.back(-1), BAD);
        Check.due("none yet", x.back(1), STATE);
        x.night();
        x.eat(0, false);
        Check.due("the first image", x.keep(1), 0);
        Check.due("the other is none", x.back(0), STATE);
        x.day(1);
        x.night();
        x.eat(1, false);
        x.put(0, 3, 8);
        x.night();
        Check.due("back", x.back(1), 1);
        Check.due("row stays", x.count(2), 1);
        nowIs(x, new int[] { 1, 0, 3, 0, 2, 1 });
        Check.due("larder", x.has(0, 0), 1);
        Check.due("last", x.last(0), 1);
        Check.due("last of the other", x.last(1), NONE);
        Check.due("one was eaten today", x.eat(1, false), STATE);
        x.night();
        Check.due("kept anew", x.keep(1), 1);
        x.night();
        Check.due("back to the later", x.back(1), 2);
        Check.due("back once more", x.back(1), 2);
        Check.due("both", x.keep(0), 0);
        Check.due("image kept stays as it was", x.put(0, 1, 9), 1);
        x.back(0);
        Check.due("larder of the image", x.has(0, 1), 1);
    }

    private static void keepAll() {
        NothingLeft x = Check.told("thing 4 1 1;thing 4 1 1;thing 4 1 1;thing 4 1 1;thing 4 1 1;thing 4 1 1;"
            + "first;first;first;first;first;first;first;first;");
        for (int s = 0; s < 8; s++) {
            x.eat(s, false);
            x.night();
        }
        for (int i = 0; i < 24; i++) {
            x.put(i / 4, i % 4, i % 9 + 1);
        }
        x.keep(0);
        Check.due("units of all", x.now(5), 2 * 45 + 21);
        for (int s = 7; s >= 0; s--) {
            x.night();
            x.eat(s, false);
        }
        x.back(0);
        for (int i = 0; i < 24; i++) {
            Check.due("larder", x.has(i / 4, i % 4), i % 9 + 1);
        }
        for (int s = 0; s < 8; s++) {
            Check.due("last", x.last(s), s);
        }
    }
}
