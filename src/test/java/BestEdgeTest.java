import java.util.function.IntUnaryOperator;

/** Promises 23 to 31, and what the document's terms say of ROWS: each sentence that names an edge, above its test. */
public final class BestEdgeTest {
    private static final int BAD = NothingLeft.BAD, NONE = NothingLeft.NONE;
    private static final String SIX = "thing 4 1 1;".repeat(6), EIGHT = "first;".repeat(8);

    public static void main(String[] args) {
        daysOfRows();
        placesOfRows();
        wrongAheadOfNone();
        bestOfAllRows();
        bestOfNoRows();
        bestOnDaysOnWhichNobodyIsIn();
        bestByMost();
        bestSupperBySupper();
        rowsOverTheWeekEnd();
        fairestFedLeast();
        fairestAsBest();
        surestInLowestTerms();
        surestOfSeveral();
        closesNoneAndAll();
        closesByAgain();
        closesOnDaysOnWhichNobodyIsIn();
        shortestUpTo5();
        smallDish();
        smallIsTheNinth();
        smallOfTheSixth();
        dishOfSeveralTheLeast();
        cheapByPrice();
        coldFourAtMost();
        coldByDays();
        nothingToldAtAll();
        Check.finish("BestEdgeTest");
    }

    private static void nights(NothingLeft x, int nights) {
        for (int i = 0; i < nights; i++) {
            x.night();
        }
    }

    private static void bestIs(String name, NothingLeft x, int n, int... due) {
        for (int what = 0; what < 5; what++) {
            Check.due(name + ", best " + what, x.best(n, what), due[what]);
        }
        for (int i = 5; i < due.length; i++) {
            Check.due(name + ", day " + (i - 5), x.best(n, 5 + i), due[i]);
        }
    }

    private static void closesIs(String name, NothingLeft x, int n, int... due) {
        for (int i = 0; i < due.length; i++) {
            Check.due(name + ", closes " + i, x.closes(n, i < 3 ? i : 7 + i), due[i]);
        }
    }

    private static void ofDays(String name, int most, IntUnaryOperator asked, IntUnaryOperator due) {
        for (int n = 1; n <= most; n++) {
            Check.due(name + " of " + n + " days", asked.applyAsInt(n), due.applyAsInt(n));
        }
        for (int n : Check.outside(1, most)) {
            Check.due(name + " of " + n + " days", asked.applyAsInt(n), BAD);
        }
    }

    // "BEST of n DAYS (1 to 5)"; surest: "n DAYS (1 to 3)"; small, dish: "n DAYS (1 to 4)"
    private static void daysOfRows() {
        NothingLeft x = Check.told("thing 4 1 2;first a 1 like 1;second;");
        ofDays("best, liked", 5, n -> x.best(n, 2), n -> 0);
        ofDays("best, rows", 5, n -> x.best(n, 4), n -> 1 << n);
        ofDays("best, day 0", 5, n -> x.best(n, 10), n -> 1);
        ofDays("fairest, fed", 5, n -> x.fairest(n, 0), n -> n);
        ofDays("fairest, day 0", 5, n -> x.fairest(n, 10), n -> 1);
        ofDays("surest, numerator", 3, n -> x.surest(n, 0), n -> 1);
        ofDays("surest, day 0", 3, n -> x.surest(n, 10), n -> 0);
        ofDays("closes, rows", 5, n -> x.closes(n, 0), n -> 1 << n);
        ofDays("closes, day 0", 5, n -> x.closes(n, 10), n -> 0);
        ofDays("small", 4, n -> x.small(0, n), n -> 1 << n);
        ofDays("dish", 4, n -> x.dish(n), n -> 0);
        ofDays("cheap", 5, n -> x.cheap(0, 1, n), n -> 0);
        ofDays("cold", 5, n -> x.cold(0, n), n -> 0);
    }

    // "10 and i (below n): the SUPPER of DAY i"
    private static void placesOfRows() {
        NothingLeft x = Check.told("first;second;feast;first;second;again 5;");
        for (int n = 1; n <= 5; n++) {
            for (int i = 0; i < n; i++) {
                Check.due("best of " + n + ", day " + i, x.best(n, 10 + i), i);
                Check.due("fairest of " + n + ", day " + i, x.fairest(n, 10 + i), i);
                Check.due("surest of " + n + ", day " + i, x.surest(n, 10 + i), n <= 3 ? i : BAD);
                Check.due("closes of " + n + ", day " + i, x.closes(n, 10 + i), n == 5 ? i : NONE);
            }
            for (int what : new int[] { -1, 5, 9, 10 + n, 15, 16, Integer.MAX_VALUE, Integer.MIN_VALUE }) {
                Check.due("best of " + n + ", " + what, x.best(n, what), BAD);
                Check.due("fairest of " + n + ", " + what, x.fairest(n, what), BAD);
                Check.due("surest of " + n + ", " + what, x.surest(n, what), BAD);
                Check.due("closes of " + n + ", " + what, x.closes(n, what), BAD);
            }
            Check.due("fairest of " + n + ", 1", x.fairest(n, 1), BAD);
            Check.due("surest of " + n + ", 2", x.surest(n, 2), BAD);
            Check.due("closes of " + n + ", 3", x.closes(n, 3), BAD);
        }
    }

    // "BAD; NONE (0 to 3, 10 and i): none MAY be." - "the first that fits"
    private static void wrongAheadOfNone() {
        NothingLeft x = Check.told("thing 1 1 0;second a 1;");
        for (int n = 1; n <= 5; n++) {
            Check.due("best, what 5", x.best(n, 5), BAD);
            Check.due("best, day n", x.best(n, 10 + n), BAD);
            Check.due("fairest, what 1", x.fairest(n, 1), BAD);
            Check.due("fairest, day n", x.fairest(n, 10 + n), BAD);
            Check.due("surest, what 2", x.surest(n, 2), BAD);
            Check.due("surest, day n", x.surest(n, 10 + n), BAD);
            Check.due("cheap, for 61", x.cheap(0, 61, n), BAD);
            Check.due("cheap, of no thing", x.cheap(1, 1, n), BAD);
            Check.due("cold, of no thing", x.cold(1, n), BAD);
        }
        Check.due("best of 6 days", x.best(6, 0), BAD);
        Check.due("fairest of 6 days", x.fairest(6, 0), BAD);
        Check.due("surest of 4 days", x.surest(4, 0), BAD);
        Check.due("cheap of 6 days", x.cheap(0, 1, 6), BAD);
        Check.due("cold of 6 days", x.cold(0, 6), BAD);
        Check.due("dish of 5 days, no things", new NothingLeft().dish(5), BAD);
    }

    // "3 how many ROWS are as good in these three, 4 how many MAY be"
    private static void bestOfAllRows() {
        NothingLeft x = Check.told(EIGHT);
        for (int n = 1; n <= 5; n++) {
            bestIs("eight suppers, " + n, x, n, 0, 0, 0, 1 << 3 * n, 1 << 3 * n, 0);
        }
        NothingLeft y = Check.told(EIGHT + "again 4;");
        int[] rows = { 8, 56, 336, 1680, 1680 * 5 };
        for (int n = 1; n <= 5; n++) {
            bestIs("not the same too soon, " + n, y, n, 0, 0, 0, rows[n - 1], rows[n - 1], 0);
        }
        NothingLeft one = Check.told("first like 1;second;");
        for (int n = 1; n <= 5; n++) {
            bestIs("one of all is best, " + n, one, n, 0, 0, n, 1, 1 << n, 0);
        }
    }

    private static void bestOfNoRows() {
        // It may be on each day but the last one.
        for (int n = 1; n <= 5; n++) {
            NothingLeft x = Check.told("thing 4 1 0;second a 1;");
            for (int age = 0; age < n - 1; age++) {
                x.put(0, 3 - age, 1);
            }
            bestIs("none may be, " + n, x, n, NONE, NONE, NONE, NONE, 0, NONE);
            Check.due("nor its last day", x.best(n, 9 + n), NONE);
            Check.due("fairest", x.fairest(n, 0), NONE);
            Check.due("fairest, its last day", x.fairest(n, 9 + n), NONE);
            Check.due("surest", x.surest(n, 0), n <= 3 ? NONE : BAD);
            Check.due("surest, denominator", x.surest(n, 1), n <= 3 ? NONE : BAD);
            Check.due("surest, its last day", x.surest(n, 9 + n), n <= 3 ? NONE : BAD);
            closesIs("none closes", x, n, 0, 0, 1, NONE);
            Check.due("cheap, as it is", x.cheap(0, 0, n), NONE);
            Check.due("cheap, a second buys nothing", x.cheap(0, 1, n), NONE);
            Check.due("cold", x.cold(0, n), NONE);
            if (n > 1) {
                bestIs("one day less", x, n - 1, 0, 0, 0, 1, 1, 0);
            }
        }
    }

    // "ROWS: .. one SUPPER each, on DAYS on which nobody is in none"
    private static void bestOnDaysOnWhichNobodyIsIn() {
        NothingLeft x = Check.told("thing 1 1 0;first like 1;second like 1;out 0;out 2;out 4;");
        bestIs("five days", x, 5, 0, 0, 2, 4, 4, NONE, 0, NONE, 0, NONE);
        x.put(0, 0, 3);
        bestIs("a night is one there, too", x, 1, 3, 0, 0, 1, 1, NONE);
        NothingLeft all = Check.told(EIGHT + "out 0;out 1;out 2;out 3;out 4;out 5;out 6;");
        bestIs("nobody is ever in", all, 5, 0, 0, 0, 1, 1, NONE, NONE, NONE, NONE, NONE);
        Check.due("one who is fed least", all.fairest(5, 0), 0);
        Check.due("nobody is in", all.fairest(5, 14), NONE);
        Check.due("it bears all", all.surest(3, 0), 1);
        Check.due("nobody is in", all.surest(3, 12), NONE);
        NothingLeft none = Check.told("out 0;");
        bestIs("no suppers", none, 1, 0, 0, 0, 1, 1, NONE);
        bestIs("no suppers on the second day", none, 2, NONE, NONE, NONE, NONE, 0, NONE, NONE);
    }

    // "with the least THROWN, then the least PAID, then the most LIKED"
    private static void bestByMost() {
        NothingLeft x = Check.told("first like 9;first like 8;");
        bestIs("liked most of all", x, 5, 0, 0, 45, 1, 32, 0, 0, 0, 0, 0);
        NothingLeft paid = Check.told("thing 4 1 60;".repeat(6) + "first a 3 b 3 c 3 d 3 e 3 f 3 like 1;");
        bestIs("paid most of all", paid, 5, 0, 5 * 18 * 60, 5, 1, 1, 0);
        NothingLeft thrown = Check.told("thing 1 1 0;".repeat(6) + "first leaves a 3 b 3 c 3 d 3 e 3 f 3;");
        for (int t = 0; t < 6; t++) {
            thrown.put(t, 0, 9);
        }
        bestIs("thrown most of all", thrown, 5, 54 + 5 * 18, 0, 0, 1, 1, 0);
        NothingLeft order = Check.told("thing 1 1 60;thing 1 2 1;first b 1 like 9;first a 1;first a 1 b 2;first a 1 like 1;");
        bestIs("one thrown is more than 59 paid, 1 paid more than 9 liked", order, 1, 0, 60, 1, 1, 4, 3);
    }

    // "then the first, SUPPER by SUPPER"
    private static void bestSupperBySupper() {
        NothingLeft x = Check.told("thing 4 1 0;second a 1;second a 1;first;again 2;");
        x.put(0, 0, 1);
        // 0 2, 1 2, 2 0 and 2 1 throw nothing.
        bestIs("two days", x, 2, 0, 0, 0, 4, 4, 0, 2);
        NothingLeft y = Check.told("first;first like 1;first like 1;first;again 7;");
        bestIs("the first by its first supper", y, 2, 0, 0, 2, 2, 12, 1, 2);
        bestIs("and by its last", y, 3, 0, 0, 2, 12, 24, 0, 1, 2);
    }

    // "The DAY of the week is that modulo 7", in all ROWS, too.
    private static void rowsOverTheWeekEnd() {
        NothingLeft x = Check.told("thing 4 1 1;first a 1;out 0;shop 1 6;guest 6 4;");
        nights(x, 5);
        bestIs("no shop on day 5", x, 1, NONE, NONE, NONE, NONE, 0, NONE);
        x.night();
        bestIs("shop on day 6, nobody in on day 7, shop on day 8", x, 3, 0, 2, 0, 1, 1, 0, NONE, 0);
        bestIs("no shop on day 9", x, 4, NONE, NONE, NONE, NONE, 0, NONE);
        closesIs("they close", x, 3, 1, 1, 0, 0, NONE, 0);
        Check.due("fed twice", x.fairest(3, 0), 2);
        Check.due("guests are bought for", x.surest(3, 0), 1);
        nights(x, 7 * 30);
        bestIs("thirty weeks on", x, 3, 0, 2, 0, 1, 1, 0, NONE, 0);
        NothingLeft y = Check.told("thing 4 1 0;second a 1;guest 6 1;guest 0 2;guest 1 3;");
        nights(y, 6);
        y.put(0, 0, 3);
        Check.due("guests on day 6, 7, 8", y.surest(3, 0), 3);
        Check.due("of 32", y.surest(3, 1), 32);
    }

    // "how often the one who is FED least is (what 0)"
    private static void fairestFedLeast() {
        NothingLeft all = Check.told("first;first wont pqrs;");
        NothingLeft none = Check.told("first wont pqrs;first like 1 wont pqrs;");
        for (int n = 1; n <= 5; n++) {
            Check.due("all are always fed", all.fairest(n, 0), n);
            Check.due("none is ever fed", none.fairest(n, 0), 0);
            Check.due("liked most", none.fairest(n, 9 + n), 1);
        }
        for (int p = 0; p < 4; p++) {
            NothingLeft one = Check.told("first like 9 wont " + "pqrs".charAt(p) + ";second;again 2;");
            Check.due("one is not fed", one.best(3, 10), 0);
            Check.due("all are fed on three days of five", one.fairest(5, 0), 3);
            Check.due("the other one first", one.fairest(5, 10), 1);
            Check.due("each day is fair on two", one.fairest(2, 0), 1);
            Check.due("the first of both", one.fairest(2, 10), 0);
        }
    }

    // "then as BEST"
    private static void fairestAsBest() {
        NothingLeft x = Check.told("thing 1 2 1;thing 1 1 60;thing 1 1 59;first a 1 like 9;first b 1 like 9;first c 1;first c 1 like 1;"
            + "first c 1 like 1;first like 9 wont p;");
        Check.due("least thrown, least paid, most liked, the first", x.fairest(1, 10), 3);
        Check.due("all are fed", x.fairest(1, 0), 1);
        Check.due("best is another one", x.best(1, 10), 5);
    }

    // surest: "0 the numerator, 1 the denominator"
    private static void surestInLowestTerms() {
        int[][] down = { { 1, 4 }, { 9, 16 }, { 27, 64 } };
        for (int chances = 1; chances <= 4; chances++) {
            NothingLeft x = Check.told("thing 4 1 0;second a 1;guest 0 " + chances + ";guest 1 " + chances + ";guest 2 " + chances + ";");
            for (int n = 1; n <= 3; n++) {
                x.put(0, 0, n);
                int up = chances == 1 ? (n == 1 ? 3 : down[n - 1][0]) : chances == 4 ? 0 : 1;
                Check.due("numerator, " + n + ", chances " + chances, x.surest(n, 0), up);
                Check.due("denominator, " + n + ", chances " + chances, x.surest(n, 1), chances == 4 ? 1 : chances == 2 ? 1 << n : 1 << 2 * n);
                x.put(0, 0, 2 * n);
                Check.due("enough for all", x.surest(n, 0), 1);
                Check.due("enough for all", x.surest(n, 1), 1);
            }
        }
    }

    // "of several the first of those that MAY be without any"
    private static void surestOfSeveral() {
        NothingLeft x = Check.told("thing 4 1 0;second a 3;second a 1;first;feast;guest 0 4;guest 1 4;guest 2 4;");
        Check.due("the first that may be", x.surest(1, 10), 2);
        x.put(0, 3, 1);
        Check.due("the surest", x.surest(1, 10), 2);
        NothingLeft none = Check.told("thing 4 1 0;second a 3;second a 1;any 1 a;guest 0 4;");
        none.put(0, 3, 1);
        Check.due("none bears them, some may be", none.surest(1, 0), 0);
        Check.due("0 of 1", none.surest(1, 1), 1);
        Check.due("the first of these", none.surest(1, 10), 1);
        none.put(0, 3, 0);
        Check.due("none may be", none.surest(1, 0), NONE);
        Check.due("none may be", none.surest(1, 1), NONE);
        Check.due("none may be", none.surest(1, 10), NONE);
    }

    // "SUPPERS that are in some (1, bits), in none (2, bits)"; "(NONE: nobody is in, or there is none)"
    private static void closesNoneAndAll() {
        NothingLeft all = Check.told(EIGHT);
        closesIs("all rows", all, 5, 32768, 255, 0, 0, 0, 0, 0, 0);
        NothingLeft none = Check.told("thing 4 1 0;" + "second a 1;".repeat(8));
        closesIs("no rows", none, 5, 0, 0, 255, NONE, NONE, NONE, NONE, NONE);
        NothingLeft last = Check.told("thing 4 1 0;" + "second a 1;".repeat(7) + "first;");
        closesIs("the last supper", last, 2, 1, 128, 127, 7, 7);
        closesIs("nothing told", new NothingLeft(), 5, 0, 0, 0, NONE, NONE);
    }

    // "round to the first one again (n DAYS on), too, are again DAYS or more"
    private static void closesByAgain() {
        int[] factorial = { 1, 1, 2, 6, 24, 120 };
        for (int n = 1; n <= 5; n++) {
            NothingLeft x = Check.told("first;".repeat(n) + "again " + n + ";");
            Check.due(n + " suppers, again " + n, x.closes(n, 0), factorial[n]);
            Check.due("all are in it", x.closes(n, 1), (1 << n) - 1);
            NothingLeft more = Check.told(EIGHT + "again " + (n + 1) + ";");
            closesIs(n + " days, again " + (n + 1), more, n, 0, 0, 255, NONE);
            Check.due("though rows may be", more.best(n, 4) > 0 ? 1 : 0, 1);
        }
    }

    private static void closesOnDaysOnWhichNobodyIsIn() {
        for (int again = 0; again <= 7; again++) {
            NothingLeft x = Check.told("first;out 1;out 2;out 3;out 4;again " + again + ";");
            for (int n = 1; n <= 5; n++) {
                closesIs("one supper in " + n + " days, again " + again, x, n, n >= again ? 1 : 0, n >= again ? 1 : 0,
                    n >= again ? 0 : 1, n >= again ? 0 : NONE);
                Check.due("its last day", x.closes(n, 9 + n), n == 1 && again <= 1 ? 0 : NONE);
            }
        }
        NothingLeft none = Check.told("thing 2 1 1;out 0;");
        closesIs("nobody is in", none, 1, 1, 0, 0, NONE);
        none.put(0, 0, 1);
        closesIs("the larder gets older", none, 1, 0, 0, 0, NONE);
        none.put(0, 0, 0);
        none.put(0, 1, 1);
        closesIs("something is thrown", none, 1, 0, 0, 0, NONE);
    }

    // "The fewest DAYS (1 to 5) for which some ROW CLOSES. NONE."
    private static void shortestUpTo5() {
        for (int again = 0; again <= 7; again++) {
            NothingLeft x = Check.told(EIGHT + "again " + again + ";");
            Check.due("again " + again, x.shortest(), again > 5 ? NONE : Math.max(1, again));
        }
        Check.due("nothing told", new NothingLeft().shortest(), NONE);
        NothingLeft x = Check.told("first;out 0;");
        x.keep(0);
        Check.due("nobody is in", x.shortest(), 1);
        NothingLeft eaten = Check.told("first;again 3;");
        eaten.eat(0, false);
        eaten.night();
        Check.due("too soon on the first day", eaten.shortest(), NONE);
    }

    // "SMALL dish: .. second, that wants 1 unit of it, leaves nothing, like 0, all eat it, again as all"
    private static void smallDish() {
        int[] rows = { 0, 1, 0, 2 };
        NothingLeft x = Check.told("thing 4 1 60;first leaves a 1;");
        NothingLeft again = Check.told("thing 4 1 60;first leaves a 1;again 2;");
        NothingLeft late = Check.told("thing 4 1 60;first leaves a 1;again 3;");
        for (int n = 1; n <= 4; n++) {
            Check.due("left and eaten, " + n, x.small(0, n), rows[n - 1]);
            Check.due("not the same too soon, " + n, again.small(0, n), n % 2 == 0 ? 1 : 0);
            Check.due("again as all, " + n, late.small(0, n), 0);
        }
        ofDays("small", 4, n -> x.small(0, n), n -> rows[n - 1]);
        for (int t : Check.outside(0, 0)) {
            Check.due("small of thing " + t, x.small(t, 2), BAD);
        }
        Check.due("no things", Check.told("first;").small(0, 1), BAD);
        // It is no supper that buys: the larder is empty.
        Check.due("it buys nothing", Check.told("thing 4 1 1;").small(0, 1), 0);
        NothingLeft one = Check.told("thing 4 1 1;");
        one.put(0, 3, 1);
        Check.due("it takes one: the larder is another", one.small(0, 1), 0);
        NothingLeft out = Check.told("thing 4 1 1;out 0;");
        Check.due("nobody is in", out.small(0, 1), 1);
    }

    private static void smallIsTheNinth() {
        NothingLeft x = Check.told("thing 4 1 1;first leaves a 1;" + "second a 3;".repeat(7));
        Check.due("eight suppers", x.count(1), 8);
        Check.due("two days", x.small(0, 2), 1);
        // 0 0 0 and one that takes three, with the dish: two more.
        Check.due("four days", x.small(0, 4), 2 + 7);
        Check.due("without it", x.closes(4, 0), 7);
        Check.due("it is none of them", x.count(1), 8);
        Check.due("without it", x.closes(2, 2), 255);
        // 1 to 7 want nothing; 0 leaves what the dish wants. Again holds for the ninth, too: it is in some of these rows twice.
        NothingLeft again = Check.told("thing 4 1 1;first leaves a 1;" + "first;".repeat(7) + "again 2;");
        int[] without = { 0, 7 * 6, 7 * 6 * 5, 6 * 6 * 6 * 6 + 6 };
        int[] with = { 0, 1, 3 * 7, 4 * 7 * 6 + 2 * 7 * 7 + 1 };
        for (int n = 1; n <= 4; n++) {
            Check.due("again, without it, " + n, again.closes(n, 0), without[n - 1]);
            Check.due("again, with it, " + n, again.small(0, n), without[n - 1] + with[n - 1]);
        }
        NothingLeft all = Check.told("thing 4 1 1;" + EIGHT);
        Check.due("nothing for the dish", all.small(0, 4), 4096);
        Check.due("the least", all.dish(4), 0);
    }

    private static void smallOfTheSixth() {
        NothingLeft x = Check.told(SIX + "first leaves f 1;");
        for (int t = 0; t < 6; t++) {
            Check.due("small of thing " + t, x.small(t, 2), t == 5 ? 1 : 0);
        }
        for (int t : Check.outside(0, 5)) {
            Check.due("small of thing " + t, x.small(t, 2), BAD);
        }
        Check.due("dish", x.dish(2), 5);
        Check.due("of none the least", x.dish(1), 0);
    }

    // "of several the least. BAD; NONE: there are no THINGS."
    private static void dishOfSeveralTheLeast() {
        NothingLeft x = Check.told(SIX + "first leaves c 1;first leaves e 1;");
        Check.due("of two the least", x.dish(2), 2);
        NothingLeft y = Check.told(SIX + "first leaves c 1;first leaves e 1;first leaves e 1;");
        Check.due("the most", y.dish(2), 4);
        Check.due("no rows by any", y.dish(3), 0);
        NothingLeft none = Check.told("first;");
        ofDays("no things", 4, n -> none.dish(n), n -> NONE);
        ofDays("a new object", 4, n -> new NothingLeft().dish(n), n -> NONE);
        ofDays("one thing", 4, n -> Check.told("thing 1 1 1;").dish(n), n -> 0);
    }

    // "If a PACK of a THING cost v (0 to 60) instead .. NONE: none MAY be then."
    private static void cheapByPrice() {
        NothingLeft x = Check.told("thing 4 1 7;thing 4 1 0;first a 1;first b 1;again 1;");
        for (int v = 0; v <= 60; v++) {
            Check.due("a for " + v, x.cheap(0, v, 1), v == 0 ? NONE : v);
            Check.due("b for " + v, x.cheap(1, v, 1), v == 0 ? 7 : Math.min(7, v));
        }
        for (int v : Check.outside(0, 60)) {
            Check.due("a for " + v, x.cheap(0, v, 1), BAD);
        }
        for (int t : Check.outside(0, 1)) {
            Check.due("thing " + t, x.cheap(t, 1, 1), BAD);
        }
        ofDays("a for 60", 5, n -> x.cheap(0, 60, n), n -> 60 * n);
        ofDays("a for none", 5, n -> x.cheap(0, 0, n), n -> NONE);
        Check.due("prices stay", x.thing(0, 2) * 10 + x.thing(1, 2), 70);
        Check.due("best stays", x.best(2, 1), 14);
    }

    // "If a THING kept one night more (4 at most)"
    private static void coldFourAtMost() {
        for (int keeps = 1; keeps <= 4; keeps++) {
            NothingLeft x = Check.told("thing 4 1 0;thing " + keeps + " 1 0;second;");
            for (int age = 0; age < keeps; age++) {
                x.put(1, age, 1);
                for (int n = 1; n <= 5; n++) {
                    int kept = Math.min(4, keeps + 1);
                    Check.due("age " + age + " of " + keeps + ", " + n, x.cold(1, n), age + n >= kept ? 1 : 0);
                    Check.due("as it is", x.best(n, 0), age + n >= keeps ? 1 : 0);
                    Check.due("of another thing", x.cold(0, n), age + n >= keeps ? 1 : 0);
                }
                x.put(1, age, 0);
            }
            Check.due("it keeps as ever", x.thing(1, 0), keeps);
            for (int t : Check.outside(0, 1)) {
                Check.due("thing " + t, x.cold(t, 1), BAD);
            }
        }
    }

    // "NONE: none MAY be."
    private static void coldByDays() {
        NothingLeft x = Check.told("thing 1 1 0;second a 1;");
        ofDays("none may be", 5, n -> x.cold(0, n), n -> NONE);
        NothingLeft y = Check.told("thing 1 2 5;first a 1;shop 0;");
        Check.due("as it is: a second day may not be", y.best(2, 0), NONE);
        Check.due("the rest of the pack keeps till the second day", y.cold(0, 2), 0);
        Check.due("a third day may not be", y.cold(0, 3), NONE);
    }

    private static void nothingToldAtAll() {
        for (int n = 1; n <= 5; n++) {
            NothingLeft x = new NothingLeft();
            bestIs("nothing told", x, n, NONE, NONE, NONE, NONE, 0, NONE);
            Check.due("fairest", x.fairest(n, 0), NONE);
            Check.due("surest", x.surest(n, 0), n <= 3 ? NONE : BAD);
            closesIs("nothing told", x, n, 0, 0, 0, NONE);
            Check.due("small", x.small(0, n), BAD);
            Check.due("cheap", x.cheap(0, 1, n), BAD);
            Check.due("cold", x.cold(0, n), BAD);
        }
    }
}
