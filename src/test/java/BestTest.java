/** Promises 23 to 31: the best row of days, the fairest, the surest, rows that close. */
public final class BestTest {
    private static final int BAD = NothingLeft.BAD, NONE = NothingLeft.NONE;

    public static void main(String[] args) {
        bestWrong();
        bestByThrown();
        bestByPaid();
        bestByLiked();
        bestByFirst();
        bestAsGood();
        bestOnOutDays();
        bestFromNowOn();
        fairest();
        fairestThenAsBest();
        fairestWrong();
        surest();
        surestAmongThoseThatMayBe();
        surestWrong();
        closes();
        closesWithAgain();
        closesWrong();
        shortest();
        small();
        smallIsNinth();
        dish();
        cheap();
        cold();
        askingChangesNothing();
        Check.finish("BestTest");
    }

    private static void bestIs(String name, NothingLeft x, int n, int... due) {
        for (int what = 0; what < 5; what++) {
            Check.due(name + ", best " + what, x.best(n, what), due[what]);
        }
        for (int i = 0; i < n; i++) {
            Check.due(name + ", day " + i, x.best(n, 10 + i), due[5 + i]);
        }
        Check.due(name + ", day n", x.best(n, 10 + n), BAD);
    }

    private static void wrongDays(String name, int most, NothingLeft x) {
        for (int n : new int[] { 0, -1, most + 1, Integer.MAX_VALUE, Integer.MIN_VALUE }) {
            int got = name.equals("best") ? x.best(n, 0) : name.equals("fairest") ? x.fairest(n, 0)
                : name.equals("surest") ? x.surest(n, 0) : name.equals("closes") ? x.closes(n, 0)
                : name.equals("small") ? x.small(0, n) : name.equals("dish") ? x.dish(n)
                : name.equals("cheap") ? x.cheap(0, 1, n) : x.cold(0, n);
            Check.due(name + " of " + n + " days", got, BAD);
        }
    }

    private static void bestWrong() {
        NothingLeft x = Check.told("thing 1 1 1;first a 1;second a 1;");
        wrongDays("best", 5, x);
        for (int what : new int[] { -1, 5, 9, 12, 20, Integer.MAX_VALUE, Integer.MIN_VALUE }) {
            Check.due("best " + what, x.best(2, what), BAD);
        }
        NothingLeft none = Check.told("thing 1 1 1;second a 1;");
        bestIs("none may be", none, 2, NONE, NONE, NONE, NONE, 0, NONE, NONE);
        Check.due("wrong is ahead of none", none.best(2, 12), BAD);
        Check.due("wrong is ahead of none", none.best(6, 0), BAD);
    }

    private static void bestByThrown() {
        NothingLeft x = Check.told("thing 1 3 1;thing 4 1 60;first a 1 like 9;first b 1;");
        bestIs("least thrown", x, 1, 0, 60, 0, 1, 2, 1);
        bestIs("least thrown", x, 2, 0, 120, 0, 1, 4, 1, 1);
    }

    private static void bestByPaid() {
        NothingLeft x = Check.told("thing 4 1 5;thing 4 1 4;first a 1 like 9;first b 1;first a 1 b 1 like 9;");
        bestIs("least paid", x, 1, 0, 4, 0, 1, 3, 1);
        x.put(0, 0, 1);
        bestIs("out of the larder", x, 2, 0, 4, 9, 2, 9, 0, 1);
    }

    private static void bestByLiked() {
        NothingLeft x = Check.told("first like 3;second like 5;feast like 4;again 2;");
        bestIs("most liked", x, 1, 0, 0, 5, 1, 3, 1);
        bestIs("most liked, not the same", x, 2, 0, 0, 9, 2, 6, 1, 2);
        bestIs("five days", x, 5, 0, 0, 23, 1, 48, 1, 2, 1, 2, 1);
    }

    private static void bestByFirst() {
        NothingLeft x = Check.told("thing 1 1 0;second a 1;first;second;first like 0;again 3;");
        bestIs("the first", x, 3, 0, 0, 0, 6, 6, 1, 2, 3);
    }

    private static void bestAsGood() {
        NothingLeft x = Check.told("first;first;first;first;first;first;first;first;");
        bestIs("all rows", x, 5, 0, 0, 0, 32768, 32768, 0, 0, 0, 0, 0);
        NothingLeft y = Check.told("first;first;first;first;first;first;first;first;again 7;");
        bestIs("all rows without the same", y, 5, 0, 0, 0, 6720, 6720, 0, 1, 2, 3, 4);
    }

    private static void bestOnOutDays() {
        NothingLeft x = Check.told("first like 1;second like 1;out 1;out 2;");
        bestIs("none on days on which nobody is in", x, 4, 0, 0, 2, 4, 4, 0, NONE, NONE, 0);
        x.night();
        bestIs("nobody is in on any", x, 2, 0, 0, 0, 1, 1, NONE, NONE);
        NothingLeft none = Check.told("out 0;");
        bestIs("no suppers", none, 1, 0, 0, 0, 1, 1, NONE);
        bestIs("no suppers on a day on which somebody is in", none, 2, NONE, NONE, NONE, NONE, 0, NONE, NONE);
    }

    private static void bestFromNowOn() {
        NothingLeft x = Check.told("thing 2 1 3;first a 1;second a 1;again 2;shop 1;");
        bestIs("no shop today", x, 1, NONE, NONE, NONE, NONE, 0, NONE);
        x.put(0, 1, 2);
        bestIs("one of two is thrown", x, 1, 1, 0, 0, 2, 2, 0);
        x.put(0, 1, 1);
        bestIs("first buys on the second day", x, 2, 0, 3, 0, 1, 1, 1, 0);
        x.eat(1, false);
        x.night();
        bestIs("not the second so soon", x, 1, 0, 3, 0, 1, 1, 0);
    }

    private static void fairest() {
        NothingLeft x = Check.told("first like 9 wont p;first like 8 wont q;first like 1 wont rs;first wont pqrs;");
        Check.due("one day: none is fed least", x.fairest(1, 0), 0);
        Check.due("one day: as best", x.fairest(1, 10), 0);
        Check.due("five days", x.fairest(5, 0), 3);
        Check.due("one day again", x.fairest(1, 0), 0);
        Check.due("one day again", x.fairest(1, 10), 0);
        Check.due("two days", x.fairest(2, 0), 1);
        Check.due("two days, liked most", x.fairest(2, 10), 0);
        Check.due("two days, liked most", x.fairest(2, 11), 1);
        Check.due("three days", x.fairest(3, 0), 2);
        Check.due("three days, one of each", x.fairest(3, 10) * 100 + x.fairest(3, 11) * 10 + x.fairest(3, 12), 12);
        NothingLeft y = Check.told("first;out 0;out 2;");
        Check.due("days on which nobody is in feed none", y.fairest(3, 0), 1);
        Check.due("such a day", y.fairest(3, 10), NONE);
        Check.due("the other day", y.fairest(3, 11), 0);
        NothingLeft s = Check.told("first wont s;first wont p;");
        s.night();
        Check.due("the fourth one counts, too", s.fairest(4, 0), 2);
        Check.due("of several the first", s.fairest(4, 10) * 1000 + s.fairest(4, 11) * 100 + s.fairest(4, 12) * 10 + s.fairest(4, 13), 11);
    }

    private static void fairestThenAsBest() {
        NothingLeft x = Check.told("thing 1 2 1;thing 1 1 7;thing 1 1 6;first a 1 like 9;first b 1 like 9;first c 1 like 1;first c 1 like 2;first wont p;");
        Check.due("then least thrown, least paid, most liked", x.fairest(1, 10), 3);
        Check.due("best is another", x.best(1, 10), 4);
        Check.due("fed", x.fairest(1, 0), 1);
    }

    private static void fairestWrong() {
        NothingLeft x = Check.told("thing 1 1 1;second a 1;");
        wrongDays("fairest", 5, x);
        for (int what : new int[] { -1, 1, 9, 12, Integer.MAX_VALUE }) {
            Check.due("fairest " + what, x.fairest(2, what), BAD);
        }
        Check.due("none may be", x.fairest(2, 0), NONE);
        Check.due("none may be", x.fairest(2, 11), NONE);
    }

    private static void surestIs(String name, NothingLeft x, int n, int... due) {
        for (int i = 0; i < n + 2; i++) {
            int what = i < 2 ? i : 8 + i;
            Check.due(name + ", surest " + what, x.surest(n, what), due[i]);
        }
    }

    private static void surest() {
        NothingLeft x = Check.told("thing 4 1 0;thing 4 1 0;second a 1 like 9;second b 1;any 3 ab;guest 0 1;guest 1 2;guest 2 4;");
        x.put(0, 3, 1);
        x.put(1, 0, 2);
        surestIs("guests are fed", x, 1, 1, 1, 1);
        surestIs("guests on the second day are fed surely", x, 2, 3, 4, 0, 1);
        NothingLeft y = Check.told("thing 4 1 0;second a 1;any 1 a;guest 0 2;guest 2 4;");
        y.put(0, 0, 1);
        surestIs("of several the first", y, 1, 1, 2, 0);
        y.put(0, 0, 3);
        surestIs("guests for sure on the third day", y, 3, 0, 1, 0, 0, 0);
        y.put(0, 0, 4);
        surestIs("one chance of two", y, 3, 1, 2, 0, 0, 0);
        NothingLeft none = Check.told("thing 4 1 0;second a 3;second a 1;guest 0 4;");
        none.put(0, 0, 1);
        surestIs("not likely at all, but it may be without guests", none, 1, 0, 1, 1);
        NothingLeft z = Check.told("first;out 0;guest 0 4;");
        surestIs("nobody is in", z, 2, 1, 1, NONE, 0);
    }

    private static void surestAmongThoseThatMayBe() {
        NothingLeft x = Check.told("thing 4 2 1;thing 4 1 0;first a 1;second a 1;second b 1;again 2;guest 0 3;");
        x.put(0, 0, 1);
        x.put(1, 0, 1);
        // First, then second bears guests by 3 of 4, but may not be without any.
        surestIs("a row that may be without guests", x, 2, 1, 1, 0, 2);
    }

    private static void surestWrong() {
        NothingLeft x = Check.told("thing 1 1 1;second a 1;");
        wrongDays("surest", 3, x);
        for (int what : new int[] { -1, 2, 9, 12, Integer.MAX_VALUE }) {
            Check.due("surest " + what, x.surest(2, what), BAD);
        }
        Check.due("none may be", x.surest(2, 0), NONE);
        Check.due("none may be", x.surest(2, 1), NONE);
        Check.due("none may be", x.surest(2, 11), NONE);
    }

    private static void closesIs(String name, NothingLeft x, int n, int... due) {
        for (int i = 0; i < n + 3; i++) {
            int what = i < 3 ? i : 7 + i;
            Check.due(name + ", closes " + what, x.closes(n, what), due[i]);
        }
    }

    private static void closes() {
        NothingLeft x = Check.told("thing 2 1 3;first a 1 leaves a 1;second a 1;feast a 1;any 2 a;");
        closesIs("one day", x, 1, 1, 4, 11, 2);
        closesIs("two days", x, 2, 3, 7, 8, 0, 1);
        x.put(0, 1, 1);
        closesIs("with one a of age 1", x, 1, 1, 1, 14, 0);
        x.put(0, 1, 0);
        x.put(0, 0, 1);
        closesIs("with one a of age 0", x, 1, 0, 0, 15, NONE);
        NothingLeft y = Check.told("thing 1 1 1;first a 1 leaves a 1;out 0;");
        closesIs("nobody is in", y, 1, 1, 0, 1, NONE);
        closesIs("what is left is thrown", y, 2, 0, 0, 1, NONE, NONE);
    }

    private static void closesWithAgain() {
        NothingLeft x = Check.told("first;first;first;again 2;");
        closesIs("one day", x, 1, 0, 0, 7, NONE);
        closesIs("two days", x, 2, 6, 7, 0, 0, 1);
        closesIs("three days", x, 3, 6, 7, 0, 0, 1, 2);
        closesIs("five days", x, 5, 30, 7, 0, 0, 1, 0, 1, 2);
        closesIs("four days", x, 4, 18, 7, 0, 0, 1, 0, 1);
        x.eat(0, false);
        x.night();
        closesIs("eaten yesterday", x, 2, 4, 7, 0, 1, 0);
    }

    private static void closesWrong() {
        NothingLeft x = Check.told("thing 1 1 1;first a 1;");
        wrongDays("closes", 5, x);
        for (int what : new int[] { -1, 3, 9, 12, Integer.MAX_VALUE }) {
            Check.due("closes " + what, x.closes(2, what), BAD);
        }
    }

    private static void shortest() {
        Check.due("one day", Check.told("first;").shortest(), 1);
        Check.due("again tells how many days", Check.told("first;first;first;first;first;again 5;").shortest(), 5);
        Check.due("more than five", Check.told("first;first;first;first;first;first;again 6;").shortest(), NONE);
        Check.due("two days", Check.told("thing 2 2 1;first a 1;second a 1;again 1;").shortest(), 2);
        Check.due("three days", Check.told("thing 3 3 1;first a 1;again 1;").shortest(), 3);
        Check.due("no suppers", Check.told("thing 1 1 1;").shortest(), NONE);
        Check.due("no suppers, nobody is in", Check.told("out 0;").shortest(), 1);
    }

    private static void small() {
        NothingLeft x = Check.told("thing 2 2 3;thing 2 1 0;first a 1;again 2;");
        wrongDays("small", 4, x);
        Check.due("no such thing", x.small(2, 1), BAD);
        Check.due("no such thing", x.small(-1, 1), BAD);
        Check.due("without", x.closes(2, 0), 0);
        Check.due("with a dish of a", x.small(0, 2), 1);
        Check.due("with a dish of b", x.small(1, 2), 0);
        Check.due("on one day", x.small(0, 1), 0);
        Check.due("on four days", x.small(0, 4), 1);
        Check.due("the dish is none of the suppers", x.count(1), 1);
        NothingLeft y = Check.told("thing 2 2 3;first a 1;again 0;");
        Check.due("again 0: twice the first, or the dish behind it", y.small(0, 2), 2);
        NothingLeft z = Check.told("thing 2 3 3;first a 2;again 1;");
        Check.due("three of a pack", z.small(0, 2), 1);
        z.eat(0, false);
        z.night();
        Check.due("from a larder of one of age 1", z.small(0, 2), 1);
    }

    private static void smallIsNinth() {
        String eight = "thing 2 2 3;first a 1;any 9 a;any 9 a;any 9 a;any 9 a;any 9 a;any 9 a;any 9 a leaves a 3 like 9 wont pqrs;";
        NothingLeft x = Check.told(eight + "again 2;");
        Check.due("a ninth supper", x.small(0, 2), 1);
        Check.due("a ninth supper on four days", x.small(0, 4), 1);
        Check.due("the best one", x.dish(4), 0);
        Check.due("eight suppers", x.count(1), 8);
        Check.due("no ninth supper", x.supper(8, 0), BAD);
        NothingLeft y = Check.told("thing 2 1 0;" + eight.replace(" a", " b") + "again 2;");
        Check.due("of a", y.small(0, 2), 0);
        Check.due("of b alone, behind that", y.small(1, 2), 1);
        Check.due("of a again", y.small(0, 2), 0);
        Check.due("the second thing's", y.dish(2), 1);
    }

    private static void dish() {
        NothingLeft x = Check.told("thing 2 1 0;thing 2 2 3;thing 2 2 3;first b 1;first c 1;again 2;");
        wrongDays("dish", 4, x);
        Check.due("the most, of several the least", x.dish(2), 1);
        Check.due("none of one day", x.dish(1), 0);
        Check.due("a row of b", x.small(1, 2), 1);
        Check.due("a row of c", x.small(2, 2), 1);
        NothingLeft y = Check.told("thing 2 1 0;thing 2 2 3;thing 2 2 3;first b 1;first c 1;first c 1;again 2;");
        Check.due("the most", y.dish(2), 2);
        Check.due("no things", Check.told("first;").dish(4), NONE);
        Check.due("wrong, and no things", Check.told("first;").dish(5), BAD);
    }

    private static void cheap() {
        NothingLeft x = Check.told("thing 4 2 9;thing 4 1 5;thing 4 1 0;first a 1;first b 1;first c 1;again 1;");
        wrongDays("cheap", 5, x);
        Check.due("no such thing", x.cheap(3, 1, 1), BAD);
        Check.due("no such thing", x.cheap(-1, 1, 1), BAD);
        Check.due("price below", x.cheap(0, -1, 1), BAD);
        Check.due("price above", x.cheap(0, 61, 1), BAD);
        Check.due("as it is", x.best(2, 1), 9);
        Check.due("b for 4", x.cheap(1, 4, 2), 8);
        Check.due("b for 5", x.cheap(1, 5, 2), 9);
        Check.due("a for 60", x.cheap(0, 60, 2), 10);
        Check.due("a can't be bought", x.cheap(0, 0, 2), 10);
        Check.due("c can be bought", x.cheap(2, 1, 2), 2);
        Check.due("prices stay", x.thing(0, 2) + x.thing(2, 2), 9);
        NothingLeft y = Check.told("thing 4 2 9;first a 1;");
        Check.due("nothing may be then", y.cheap(0, 0, 2), NONE);
        Check.due("nothing may be on five days", y.cheap(0, 0, 5), NONE);
        NothingLeft z = Check.told("thing 1 2 9;thing 4 1 20;first a 1;first b 1;");
        Check.due("the least thrown is chosen ahead", z.cheap(0, 1, 1), 20);
    }

    private static void cold() {
        NothingLeft x = Check.told("thing 1 2 9;thing 4 1 0;first a 1;");
        wrongDays("cold", 5, x);
        Check.due("no such thing", x.cold(2, 1), BAD);
        Check.due("no such thing", x.cold(-1, 1), BAD);
        Check.due("as it is", x.best(2, 0), 2);
        Check.due("a night more", x.cold(0, 2), 0);
        Check.due("a night more on three days", x.cold(0, 3), 0);
        Check.due("of another thing", x.cold(1, 2), 2);
        Check.due("keeps as ever", x.thing(0, 0), 1);
        NothingLeft z = Check.told("thing 1 1 0;second;");
        z.put(0, 0, 5);
        Check.due("not the first night", z.cold(0, 1), 0);
        Check.due("one night more alone", z.cold(0, 2), 5);
        Check.due("five days", z.cold(0, 5), 5);
        x.put(1, 3, 6);
        Check.due("four at most", x.cold(1, 1), 6 + 1);
        Check.due("as it is", x.best(1, 0), 7);
        NothingLeft y = Check.told("thing 3 1 0;second;");
        y.put(0, 2, 4);
        Check.due("thrown", y.best(1, 0), 4);
        Check.due("not the next night", y.cold(0, 1), 0);
        Check.due("the second night", y.cold(0, 2), 4);
        Check.due("none may be", Check.told("thing 3 1 0;second a 1;").cold(0, 1), NONE);
    }

    private static void askingChangesNothing() {
        NothingLeft x = Check.told("thing 2 2 3;first a 1 like 1;second a 1;guest 0 2;");
        x.put(0, 1, 1);
        x.day(1);
        x.best(5, 0);
        x.fairest(5, 0);
        x.surest(3, 0);
        x.closes(5, 0);
        x.shortest();
        x.small(0, 4);
        x.dish(4);
        x.cheap(0, 0, 5);
        x.cold(0, 5);
        x.bears(0);
        x.row(0);
        Check.due("day", x.now(0), 0);
        Check.due("eaten", x.now(1), NONE);
        Check.due("paid", x.now(2) + x.now(3) + x.now(4), 0);
        Check.due("larder", x.has(0, 1), 1);
        Check.due("units", x.now(5), 1);
        Check.due("last", x.last(0), NONE);
        Check.due("row", x.count(2), 1);
        Check.due("keeps", x.thing(0, 0), 2);
        Check.due("price", x.thing(0, 2), 3);
        Check.due("suppers", x.count(1), 2);
    }
}
