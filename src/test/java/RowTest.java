/** Promises 19 to 22: a row told by hand. */
public final class RowTest {
    private static final int BAD = NothingLeft.BAD, FULL = NothingLeft.FULL, NONE = NothingLeft.NONE;

    public static void main(String[] args) {
        dayAndClear();
        rowThatMayBe();
        rowThatMayNotBe();
        rowFromNowOn();
        rowBehindSupperOfToday();
        rowOfNone();
        rowCloses();
        rowClosesAgain();
        rowFeeds();
        bears();
        bearsAsItGoes();
        Check.finish("RowTest");
    }

    private static void rowIs(String name, NothingLeft x, int... due) {
        for (int what = 0; what < due.length; what++) {
            Check.due(name + ", row " + what, x.row(what), due[what]);
        }
    }

    private static void bearsIs(String name, NothingLeft x, int numerator, int denominator) {
        Check.due(name + ", numerator", x.bears(0), numerator);
        Check.due(name + ", denominator", x.bears(1), denominator);
    }

    private static void days(NothingLeft x, int... suppers) {
        x.clear();
        for (int i = 0; i < suppers.length; i++) {
            Check.due("day", x.day(suppers[i]), i + 1);
        }
    }

    private static void dayAndClear() {
        NothingLeft x = Check.told("first;second;");
        Check.due("no such supper", x.day(2), BAD);
        Check.due("no such supper", x.day(-1), BAD);
        Check.due("-3", x.day(-3), BAD);
        days(x, 0, NONE, 1, 1, NONE, 0, 0);
        Check.due("eighth day", x.day(0), FULL);
        Check.due("eighth day, none", x.day(NONE), FULL);
        Check.due("eighth day, no such supper", x.day(2), BAD);
        Check.due("seven days", x.count(2), 7);
        Check.due("clear", x.clear(), 7);
        Check.due("clear again", x.clear(), 0);
        Check.due("first day again", x.day(1), 1);
        Check.due("NONE on a new object", new NothingLeft().day(NONE), 1);
        Check.due("0 on a new object", new NothingLeft().day(0), BAD);
    }

    private static void rowThatMayBe() {
        NothingLeft x = Check.told("thing 2 2 3;first a 1 like 4;second a 1 like 1;");
        days(x, 0, 1, 0);
        rowIs("may be", x, NONE, 0, 6, 0, 9, 0);
        days(x, 0, NONE, 0);
        rowIs("thrown in its second night", x, NONE, 0, 6, 1, 8, 0);
        Check.due("nothing was eaten", x.now(1), NONE);
        Check.due("it is day 0 yet", x.now(0), 0);
        Check.due("nothing was bought", x.now(5), 0);
        Check.due("nothing was paid", x.now(2), 0);
        for (int what : new int[] { -1, 6, 9, 14, Integer.MAX_VALUE, Integer.MIN_VALUE }) {
            Check.due("row " + what, x.row(what), BAD);
        }
        x.clear();
        rowIs("empty", x, NONE, 0, 0, 0, 0, 0);
        Check.due("empty row feeds none", x.row(10), 0);
    }

    private static void rowThatMayNotBe() {
        NothingLeft x = Check.told("thing 1 2 3;first a 1 like 4;second a 1 like 1;again 2;out 3;");
        days(x, 0, 1, 0);
        rowIs("lacking on its second day", x, 1, 3, 3, 1, 4, 0);
        days(x, 1, 0);
        rowIs("lacking on its first day", x, 0, 3, 0, 0, 0, 0);
        days(x, 0, 0, 1);
        rowIs("too soon", x, 1, 2, 3, 1, 4, 0);
        days(x, 0, NONE, 0, 0);
        rowIs("nobody in, ahead of too soon", x, 3, 1, 6, 2, 8, 0);
        days(x, NONE, NONE, NONE, NONE, 0, NONE, 0);
        rowIs("seven days", x, NONE, 0, 6, 2, 8, 0);
        days(x, 1);
        rowIs("lacking", x, 0, 3, 0, 0, 0, 0);
        days(x, NONE);
        rowIs("no reason stays", x, NONE, 0, 0, 0, 0, 0);
    }

    private static void rowFromNowOn() {
        NothingLeft x = Check.told("thing 3 1 2;first a 1 like 1;second a 2;again 3;shop 0;");
        days(x, 0);
        x.eat(0, false);
        x.night();
        x.night();
        rowIs("two days behind its supper", x, 0, 2, 0, 0, 0, 0);
        x.night();
        rowIs("three days behind, no shop", x, 0, 3, 0, 0, 0, 0);
        x.put(0, 0, 2);
        rowIs("out of the larder", x, NONE, 0, 0, 0, 1, 0);
        days(x, 1, 0);
        rowIs("all of it on the first day", x, 1, 3, 0, 0, 0, 0);
        for (int day = 3; day < 6; day++) {
            x.night();
        }
        days(x, NONE, 0);
        rowIs("day 7 is a shop", x, NONE, 0, 2, 0, 1, 0);
        Check.due("sums of now are others", x.now(3), 2);
    }

    private static void rowBehindSupperOfToday() {
        NothingLeft x = Check.told("first like 1;second like 2;again 1;");
        x.eat(1, false);
        days(x, 0, 1);
        rowIs("today once more", x, NONE, 0, 0, 0, 3, 1);
        days(x, 1);
        rowIs("what was eaten today is too soon today", x, 0, 2, 0, 0, 0, 0);
        Check.due("best begins today, too", x.best(2, 4), 2);
        Check.due("best on the day", x.best(1, 10), 0);
        Check.due("eaten today", x.now(1), 1);
    }

    private static void rowOfNone() {
        NothingLeft x = Check.told("thing 1 1 1;first;out 0;");
        days(x, NONE, NONE);
        x.put(0, 0, 3);
        rowIs("nothing is eaten, whether somebody is in or not", x, NONE, 0, 0, 3, 0, 0);
        for (int p = 0; p < 4; p++) {
            Check.due("nobody is fed", x.row(10 + p), 0);
        }
        x.put(0, 0, 0);
        days(x, NONE);
        rowIs("nobody is in: it closes", x, NONE, 0, 0, 0, 0, 1);
        days(x, 0);
        rowIs("nobody is in", x, 0, 1, 0, 0, 0, 0);
        days(x, NONE, 0);
        rowIs("the next day", x, NONE, 0, 0, 0, 0, 1);
        days(x, NONE, NONE);
        rowIs("none on a day on which somebody is in", x, NONE, 0, 0, 0, 0, 0);
        NothingLeft y = Check.told("thing 4 1 1;first;out 1;");
        days(y, NONE);
        rowIs("none on such a first day", y, NONE, 0, 0, 0, 0, 0);
        days(y, NONE, NONE);
        rowIs("none on such a first day, and on one on which nobody is in", y, NONE, 0, 0, 0, 0, 0);
        days(y, 0, NONE);
        rowIs("none on a second day on which nobody is in", y, NONE, 0, 0, 0, 0, 1);
    }

    private static void rowCloses() {
        NothingLeft x = Check.told("thing 2 1 3;first a 1;second a 1;first a 1 leaves a 1;");
        days(x, 0);
        rowIs("bought and eaten", x, NONE, 0, 3, 0, 0, 1);
        x.put(0, 0, 1);
        rowIs("the larder is another one", x, NONE, 0, 0, 0, 0, 0);
        x.put(0, 0, 0);
        days(x, 2, 1);
        rowIs("left and eaten", x, NONE, 0, 3, 0, 0, 1);
        days(x, 2);
        rowIs("left", x, NONE, 0, 3, 0, 0, 0);
        x.put(0, 1, 1);
        rowIs("as before", x, NONE, 0, 0, 0, 0, 1);
        days(x, 1);
        rowIs("eaten", x, NONE, 0, 0, 0, 0, 0);
        x.put(0, 1, 0);
        x.clear();
        rowIs("no days", x, NONE, 0, 0, 0, 0, 0);
        days(x, 0, 0, 0, 0, 0);
        rowIs("five days", x, NONE, 0, 15, 0, 0, 1);
        days(x, 0, 0, 0, 0, 0, 0);
        rowIs("six days", x, NONE, 0, 18, 0, 0, 0);
        days(x, 0, 0, 1);
        rowIs("may not be", x, 2, 3, 6, 0, 0, 0);
        NothingLeft y = Check.told("thing 1 2 3;first a 1;");
        days(y, 0);
        rowIs("something is thrown", y, NONE, 0, 3, 1, 0, 0);
        for (int t = 0; t < 6; t++) {
            NothingLeft z = Check.told("thing 4 1 1;thing 4 1 1;thing 4 1 1;thing 4 1 1;thing 4 1 1;thing 4 1 1;first;");
            days(z, 0);
            rowIs("nothing there", z, NONE, 0, 0, 0, 0, 1);
            z.put(t, 2, 1);
            rowIs("one thing is older", z, NONE, 0, 0, 0, 0, 0);
        }
    }

    private static void rowClosesAgain() {
        NothingLeft x = Check.told("first;second;feast;again 3;out 4;");
        days(x, 0);
        rowIs("one day is below again", x, NONE, 0, 0, 0, 0, 0);
        days(x, 0, 1);
        rowIs("two days are below again", x, NONE, 0, 0, 0, 0, 0);
        days(x, 0, 1, 2);
        rowIs("three are not", x, NONE, 0, 0, 0, 0, 1);
        days(x, 0, 1, 2, 0);
        rowIs("round to the first one: 1", x, NONE, 0, 0, 0, 0, 0);
        days(x, 0, 1, 2, 0, NONE);
        rowIs("round to the first one: 2", x, NONE, 0, 0, 0, 0, 0);
        days(x, 0, 1, 2, 1, NONE);
        rowIs("within the row", x, 3, 2, 0, 0, 0, 0);
        NothingLeft y = Check.told("first;second;again 2;");
        days(y, 0, 1, 0);
        rowIs("round to the first one: 1", y, NONE, 0, 0, 0, 0, 0);
        days(y, 0, 1, 0, 1);
        rowIs("twice the same", y, NONE, 0, 0, 0, 0, 1);
    }

    private static void rowFeeds() {
        NothingLeft x = Check.told("thing 1 1 0;first wont p;second wont qr;any 1 a;feast;out 6;");
        days(x, 0, 1, 3, NONE, 0, 1, 3);
        int[] fed = { 3, 3, 3, 5 };
        for (int p = 0; p < 4; p++) {
            Check.due("fed ahead of the day on which nobody is in", x.row(10 + p), fed[p]);
        }
        days(x, 0, 2, 3);
        int[] first = { 0, 1, 1, 1 };
        for (int p = 0; p < 4; p++) {
            Check.due("fed ahead of what is lacking", x.row(10 + p), first[p]);
        }
    }

    private static void bears() {
        NothingLeft x = Check.told("thing 1 1 0;second a 1;first;guest 0 1;guest 1 3;guest 2 4;guest 4 2;");
        bearsIs("empty row", x, 1, 1);
        Check.due("bears -1", x.bears(-1), BAD);
        Check.due("bears 2", x.bears(2), BAD);
        days(x, 0);
        bearsIs("lacking", x, 0, 1);
        x.put(0, 0, 1);
        bearsIs("enough without guests", x, 3, 4);
        x.put(0, 0, 2);
        bearsIs("enough with guests", x, 1, 1);
        x.night();
        x.put(0, 0, 1);
        bearsIs("three chances of guests", x, 1, 4);
        x.night();
        x.put(0, 0, 1);
        bearsIs("guests for sure", x, 0, 1);
        x.night();
        x.put(0, 0, 1);
        bearsIs("no guests", x, 1, 1);
        x.night();
        x.put(0, 0, 1);
        bearsIs("lowest terms", x, 1, 2);
        days(x, NONE, 1, 1, 1, 1, 1, 1);
        bearsIs("seven days that want nothing", x, 1, 1);
        NothingLeft y = Check.told("first;out 0;guest 0 1;");
        days(y, 0);
        bearsIs("nobody in", y, 0, 1);
    }

    private static void bearsAsItGoes() {
        NothingLeft x = Check.told("thing 4 1 0;second a 1;guest 0 1;guest 1 2;guest 2 3;");
        days(x, 0, 0, 0);
        x.put(0, 0, 3);
        bearsIs("no guests on three days", x, 3, 32);
        x.put(0, 0, 6);
        bearsIs("enough for all", x, 1, 1);
        x.put(0, 0, 5);
        bearsIs("not on all three days", x, 29, 32);
        NothingLeft y = Check.told("thing 4 2 1;thing 4 1 0;first a 1;second a 1;guest 0 1;");
        y.put(0, 0, 1);
        days(y, 0, 1);
        bearsIs("guests let one buy what is wanted the day after", y, 1, 4);
        Check.due("without guests it may not be", y.row(0), 1);
    }
}
