/** Promises 19 to 22, and what the document's terms say of THE ROW: each sentence that names an edge, above its test. */
public final class RowEdgeTest {
    private static final int BAD = NothingLeft.BAD, FULL = NothingLeft.FULL, NONE = NothingLeft.NONE;

    public static void main(String[] args) {
        rowOf7Days();
        dayOfNoSupper();
        badAheadOfFull();
        clearAtAnyLength();
        askedOfNow();
        asIfNothingWasEatenToday();
        firstDayThatMayNotBe();
        whyItMayNotBe();
        noneWhetherSomebodyIsInOrNot();
        sumsOfDaysAhead();
        fedOfDaysAhead();
        closesByDays();
        closesByNone();
        closesByThrown();
        closesByLarder();
        closesByAgain();
        rowAsked();
        bearsAsked();
        bearsNothing();
        bearsInLowestTerms();
        bearsOverTheWeekEnd();
        Check.finish("RowEdgeTest");
    }

    private static void days(NothingLeft x, int... suppers) {
        x.clear();
        for (int i = 0; i < suppers.length; i++) {
            Check.due("day", x.day(suppers[i]), i + 1);
        }
    }

    private static void nights(NothingLeft x, int nights) {
        for (int i = 0; i < nights; i++) {
            x.night();
        }
    }

    private static void rowIs(String name, NothingLeft x, int... due) {
        for (int what = 0; what < due.length; what++) {
            Check.due(name + ", row " + what, x.row(what), due[what]);
        }
    }

    private static void bearsIs(String name, NothingLeft x, int numerator, int denominator) {
        Check.due(name + ", numerator", x.bears(0), numerator);
        Check.due(name + ", denominator", x.bears(1), denominator);
    }

    // "THE ROW (7) .. a SUPPER, or none"; "how many DAYS it has .. FULL."
    private static void rowOf7Days() {
        NothingLeft x = Check.told("first;second;");
        for (int days = 1; days <= 7; days++) {
            Check.due("day " + days, x.day(days % 3 == 0 ? NONE : days % 3 - 1), days);
            Check.due("days", x.count(2), days);
        }
        Check.due("an eighth day", x.day(0), FULL);
        Check.due("an eighth day of none", x.day(NONE), FULL);
        Check.due("seven", x.count(2), 7);
        Check.due("cleared", x.clear(), 7);
        Check.due("the first day again", x.day(0), 1);
        NothingLeft none = new NothingLeft();
        for (int days = 1; days <= 7; days++) {
            Check.due("none without suppers, " + days, none.day(NONE), days);
        }
        Check.due("an eighth of them", none.day(NONE), FULL);
    }

    // "BAD" (NONE is -4)
    private static void dayOfNoSupper() {
        for (int suppers = 0; suppers <= 8; suppers += 4) {
            NothingLeft x = Check.told("first;".repeat(suppers));
            for (int s : new int[] { -1, -2, -3, -5, -6, suppers, suppers + 1, Integer.MAX_VALUE, Integer.MIN_VALUE }) {
                Check.due("day of " + s + ", " + suppers + " suppers", x.day(s), BAD);
                Check.due("no day", x.count(2), 0);
            }
            Check.due("none", x.day(NONE), 1);
            if (suppers > 0) {
                Check.due("the first supper", x.day(0), 2);
                Check.due("the last supper", x.day(suppers - 1), 3);
            }
        }
    }

    // "the first that fits"
    private static void badAheadOfFull() {
        NothingLeft x = Check.told("first;");
        days(x, 0, 0, 0, 0, 0, 0, 0);
        Check.due("no such supper of a full row", x.day(1), BAD);
        Check.due("no such supper of a full row", x.day(-1), BAD);
        Check.due("a supper of a full row", x.day(0), FULL);
    }

    // "THE ROW is empty: how many DAYS it had."
    private static void clearAtAnyLength() {
        NothingLeft x = Check.told("first like 1;");
        Check.due("an empty row", x.clear(), 0);
        for (int days = 1; days <= 7; days++) {
            for (int i = 0; i < days; i++) {
                x.day(0);
            }
            Check.due("a row of " + days, x.clear(), days);
            Check.due("none is left", x.count(2), 0);
            rowIs("none is left", x, NONE, 0, 0, 0, 0, 0);
            Check.due("clear again", x.clear(), 0);
        }
        Check.due("a new object", new NothingLeft().clear(), 0);
    }

    // "from when it is asked of (DAYS that go on between take none of it)"
    private static void askedOfNow() {
        NothingLeft x = Check.told("thing 4 1 1;first a 1;second a 1;shop 6;out 2;");
        days(x, 0, 1);
        for (int day = 0; day <= 14; day++) {
            Check.due("days of the row on day " + day, x.count(2), 2);
            int w = day % 7;
            Check.due("first that may not be, day " + day, x.row(0), w == 6 ? 1 : 0);
            Check.due("why, day " + day, x.row(1), w == 2 ? 1 : 3);
            x.night();
        }
        x.put(0, 0, 2);
        rowIs("out of the larder of now", x, 1, 1, 0, 0, 0, 0);
        x.eat(0, false);
        Check.due("a supper takes none of it", x.count(2), 2);
        x.keep(0);
        x.day(0);
        x.back(0);
        Check.due("an image has none of it", x.count(2), 3);
    }

    // "(as if nothing was eaten today yet)"
    private static void asIfNothingWasEatenToday() {
        NothingLeft x = Check.told("thing 4 1 1;first a 1 like 5;second like 1;");
        x.eat(0, false);
        days(x, 1, 0);
        rowIs("a supper today", x, NONE, 0, 1, 0, 6, 1);
        Check.due("though there was one today", x.eat(1, false), NothingLeft.STATE);
        days(x, 0);
        rowIs("again 0, the same today", x, NONE, 0, 1, 0, 5, 1);
        Check.due("best begins today", x.best(1, 4), 2);
        Check.due("closes begins today", x.closes(1, 0), 2);
        Check.due("paid before is not of the row", x.now(2), 1);
    }

    // "0 the first DAY (from 0) whose SUPPER MAY not be (NONE)"
    private static void firstDayThatMayNotBe() {
        NothingLeft x = Check.told("thing 1 1 0;first like 1;second a 1;");
        int[] row = { 0, 0, 0, 0, 0, 0, 0 };
        days(x, row);
        rowIs("all seven may be", x, NONE, 0, 0, 0, 7, 0);
        for (int i = 0; i < 7; i++) {
            row[i] = 1;
            days(x, row);
            rowIs("lacking on day " + i, x, i, 3, 0, 0, i, 0);
            row[i] = 0;
        }
        days(x, 1, 1, 1, 1, 1, 1, 1);
        rowIs("the first of seven", x, 0, 3, 0, 0, 0, 0);
        x.clear();
        rowIs("no days", x, NONE, 0, 0, 0, 0, 0);
    }

    // "1 why (0)"
    private static void whyItMayNotBe() {
        NothingLeft x = Check.told("thing 1 1 0;first;second a 1;feast;out 2;again 2;");
        days(x, 0, 0);
        rowIs("too soon", x, 1, 2, 0, 0, 0, 0);
        days(x, 0, 1);
        rowIs("lacking", x, 1, 3, 0, 0, 0, 0);
        days(x, 0, 2, 1);
        rowIs("nobody in", x, 2, 1, 0, 0, 0, 0);
        days(x, 0, 2, NONE);
        Check.due("none of them", x.row(1), 0);
        days(x, 0, 2, NONE, 0, 0);
        rowIs("too soon on the fifth day", x, 4, 2, 0, 0, 0, 0);
    }

    // "(NONE: that DAY nothing is eaten, whether somebody is in or not)"
    private static void noneWhetherSomebodyIsInOrNot() {
        NothingLeft x = Check.told("thing 2 1 0;first like 3;out 1;");
        x.put(0, 0, 4);
        days(x, NONE, NONE, NONE, 0, NONE, NONE, NONE);
        rowIs("nights pass", x, NONE, 0, 0, 4, 3, 0);
        for (int p = 0; p < 4; p++) {
            Check.due("fed once", x.row(10 + p), 1);
        }
        bearsIs("none bears any guests", x, 1, 1);
        days(x, NONE, 0);
        rowIs("nobody in", x, 1, 1, 0, 0, 0, 0);
    }

    // "(2 to 4, FED: of DAYS ahead of the first whose SUPPER MAY not be)"
    private static void sumsOfDaysAhead() {
        NothingLeft x = Check.told("thing 1 2 7;first a 1 like 2;second a 3;");
        for (int i = 0; i < 7; i++) {
            x.clear();
            for (int j = 0; j < i; j++) {
                x.day(0);
            }
            x.day(1);
            rowIs(i + " days ahead", x, i, 3, 7 * i, i, 2 * i, 0);
        }
        days(x, 0, 0, 0, 0, 0, 0, 0);
        rowIs("all days", x, NONE, 0, 49, 7, 14, 0);
        x.clear();
        rowIs("no days", x, NONE, 0, 0, 0, 0, 0);
    }

    // The same, "10 and p: how often one is FED"
    private static void fedOfDaysAhead() {
        NothingLeft x = Check.told("thing 1 1 0;first wont p;first wont s;second a 1;out 3;");
        int[][] rows = { {}, { 2 }, { 0, 2, 1 }, { 0, 1, 2 }, { 0, 1, 0, NONE, 0, 0, 1 }, { 1, 1, 1, 1 }, { NONE, 1, 1, NONE, 0 } };
        int[][] fed = { { 0, 0, 0, 0 }, { 0, 0, 0, 0 }, { 0, 1, 1, 1 }, { 1, 2, 2, 1 }, { 2, 6, 6, 4 }, { 3, 3, 3, 0 }, { 2, 3, 3, 1 } };
        for (int i = 0; i < rows.length; i++) {
            days(x, rows[i]);
            for (int p = 0; p < 4; p++) {
                Check.due("row " + i + ", how often one is fed, " + p, x.row(10 + p), fed[i][p]);
            }
        }
        NothingLeft all = Check.told("first;first wont pqrs;");
        days(all, 0, 0, 0, 0, 0, 0, 0);
        for (int p = 0; p < 4; p++) {
            Check.due("all seven", all.row(10 + p), 7);
        }
        days(all, 1, 1, 1, 1, 1, 1, 1);
        for (int p = 0; p < 4; p++) {
            Check.due("never", all.row(10 + p), 0);
        }
    }

    // "5 whether it CLOSES (.. 0 also, if it has no DAYS or more than 5 ..)"
    private static void closesByDays() {
        NothingLeft x = Check.told("first;");
        Check.due("no days", x.row(5), 0);
        for (int days = 1; days <= 7; days++) {
            x.day(0);
            Check.due(days + " days", x.row(5), days <= 5 ? 1 : 0);
        }
        NothingLeft out = Check.told("out 0;out 1;out 2;out 3;out 4;out 5;out 6;");
        Check.due("no days, nobody is ever in", out.row(5), 0);
        for (int days = 1; days <= 7; days++) {
            out.day(NONE);
            Check.due(days + " days on which nobody is in", out.row(5), days <= 5 ? 1 : 0);
        }
    }

    // "0 also, if it has .. none on a DAY on which somebody is in"
    private static void closesByNone() {
        for (int out = 0; out < 7; out++) {
            NothingLeft x = Check.told("first;out " + out + ";");
            nights(x, 5);
            for (int i = 0; i < 5; i++) {
                int[] row = { 0, 0, 0, 0, 0 };
                row[i] = NONE;
                days(x, row);
                int nobodyIn = out >= 5 ? out - 5 : out + 2;
                Check.due("none on day " + (5 + i) + ", nobody is in on " + out, x.row(5), nobodyIn == i ? 1 : 0);
                Check.due("it may be", x.row(0), nobodyIn == i || nobodyIn > 4 ? NONE : nobodyIn);
            }
        }
    }

    // "nothing is THROWN"
    private static void closesByThrown() {
        NothingLeft x = Check.told("thing 1 1 1;thing 2 1 1;first a 1 leaves a 1;first b 1 leaves b 1;second b 1;first b 1;");
        days(x, 0);
        rowIs("one is thrown", x, NONE, 0, 1, 1, 0, 0);
        days(x, 1, 2);
        rowIs("none is thrown", x, NONE, 0, 1, 0, 0, 1);
        x.put(0, 0, 1);
        days(x, 3);
        rowIs("another thing is thrown", x, NONE, 0, 1, 1, 0, 0);
    }

    // "THE LARDER behind its last NIGHT is as it is now"
    private static void closesByLarder() {
        for (int age = 0; age <= 3; age++) {
            NothingLeft x = Check.told("thing 4 1 1;thing 4 1 1;first;first leaves b 1;second b 1 leaves b 1;");
            days(x, 0);
            rowIs("an empty larder", x, NONE, 0, 0, 0, 0, 1);
            x.put(1, age, 1);
            rowIs("one of age " + age, x, NONE, 0, 0, age == 3 ? 1 : 0, 0, 0);
            days(x, 2);
            rowIs("one of age " + age + " is eaten, one is left", x, NONE, 0, 0, 0, 0, age == 1 ? 1 : 0);
            x.put(1, age, 0);
            days(x, 1);
            rowIs("one more", x, NONE, 0, 0, 0, 0, 0);
        }
    }

    // "from each place of a SUPPER to the next one of it, round to the first one again (n DAYS on), too, are again DAYS or more"
    private static void closesByAgain() {
        for (int n = 1; n <= 5; n++) {
            for (int again = 0; again <= 7; again++) {
                NothingLeft x = Check.told("first;second;feast;first;second;again " + again + ";");
                for (int s = 0; s < n; s++) {
                    x.day(s);
                }
                Check.due(n + " days, again " + again, x.row(5), n >= again ? 1 : 0);
                NothingLeft out = Check.told("first;again " + again + ";out 1;out 2;out 3;out 4;");
                out.day(0);
                for (int i = 1; i < n; i++) {
                    out.day(NONE);
                }
                Check.due("one supper in " + n + " days, again " + again, out.row(5), n >= again ? 1 : 0);
            }
        }
        NothingLeft y = Check.told("first;second;again 2;");
        days(y, 0, 1, 0, 1);
        Check.due("two days between each of them", y.row(5), 1);
        days(y, 0, 1, 0, 1, 0);
        Check.due("one day from the last to the first", y.row(5), 0);
        y.eat(0, false);
        days(y, 0, 1);
        rowIs("eaten today: it may not be", y, 0, 2, 0, 0, 0, 0);
        days(y, 1, 0);
        rowIs("eaten yesterday: it may not be", y, 1, 2, 0, 0, 0, 0);
        y.night();
        rowIs("two days ago", y, NONE, 0, 0, 0, 0, 1);
    }

    private static void rowAsked() {
        NothingLeft x = Check.told("first wont s;");
        days(x, 0);
        for (int what = 0; what <= 13; what++) {
            int due = what == 0 ? NONE : what == 5 ? 1 : what >= 6 && what <= 9 ? BAD : what >= 10 && what <= 12 ? 1 : 0;
            Check.due("row " + what, x.row(what), due);
        }
        for (int what : Check.outside(0, 13)) {
            Check.due("row " + what, x.row(what), BAD);
            Check.due("row " + what + " of a new object", new NothingLeft().row(what), BAD);
        }
    }

    // "THE ROW BEARS guests: 0 the numerator, 1 the denominator. BAD."
    private static void bearsAsked() {
        NothingLeft x = Check.told("first;");
        for (int what : Check.outside(0, 1)) {
            Check.due("bears " + what, x.bears(what), BAD);
        }
        bearsIs("no days", x, 1, 1);
        bearsIs("a new object", new NothingLeft(), 1, 1);
    }

    private static void bearsNothing() {
        NothingLeft x = Check.told("thing 4 1 0;second a 1;first;guest 0 1;guest 1 4;");
        days(x, 1, 1, 1, 1, 1, 1, 0);
        bearsIs("lacking on the last day, whoever comes", x, 0, 1);
        x.put(0, 0, 1);
        days(x, 1, 0);
        bearsIs("guests for sure", x, 0, 1);
        days(x, 0, 1);
        bearsIs("guests for sure, who are fed", x, 3, 4);
        NothingLeft out = Check.told("first;out 0;guest 0 4;");
        days(out, 0);
        bearsIs("nobody in", out, 0, 1);
        days(out, NONE);
        bearsIs("none", out, 1, 1);
    }

    // "Fractions are in lowest terms, the denominator above 0."
    private static void bearsInLowestTerms() {
        int[] ones = { 1, 3, 9, 27, 81, 243, 729, 2187 };
        for (int chances = 1; chances <= 4; chances++) {
            StringBuilder text = new StringBuilder("thing 2 1 0;second a 1 leaves a 1;");
            for (int w = 0; w < 7; w++) {
                text.append("guest " + w + " " + chances + ";");
            }
            NothingLeft x = Check.told(text.toString());
            x.put(0, 0, 1);
            for (int days = 1; days <= 7; days++) {
                x.day(0);
                int up = chances == 1 ? ones[days] : chances == 4 ? 0 : 1;
                int down = chances == 4 ? 1 : chances == 2 ? 1 << days : 1 << 2 * days;
                bearsIs(days + " days without guests, chances " + chances, x, up, down);
            }
        }
        NothingLeft none = Check.told("first;");
        days(none, 0, 0, 0, 0, 0, 0, 0);
        bearsIs("no chances", none, 1, 1);
    }

    // "The DAY of the week is that modulo 7", in rows, too.
    private static void bearsOverTheWeekEnd() {
        NothingLeft x = Check.told("thing 4 1 0;second a 1;guest 6 1;guest 0 2;guest 1 3;");
        nights(x, 6);
        x.put(0, 0, 3);
        days(x, 0, 0, 0);
        bearsIs("day 6, 7, 8", x, 3, 32);
        NothingLeft y = Check.told("thing 4 1 5;first a 1;out 0;shop 1 6;");
        nights(y, 6);
        days(y, 0, NONE, 0);
        rowIs("shops on day 6 and 8, nobody in on day 7", y, NONE, 0, 10, 0, 0, 1);
        days(y, 0, 0);
        rowIs("nobody in on day 7", y, 1, 1, 5, 0, 0, 0);
        days(y, 0, NONE, 0, 0);
        rowIs("no shop on day 9", y, 3, 3, 10, 0, 0, 0);
        nights(y, 7 * 60);
        days(y, 0, NONE, 0);
        rowIs("sixty weeks on", y, NONE, 0, 10, 0, 0, 1);
    }
}
