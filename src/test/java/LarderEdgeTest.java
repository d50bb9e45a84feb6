/** Part 2 of the document's terms as far as a larder goes, and promises 9 to 18: each sentence that names an edge, above its test. */
public final class LarderEdgeTest {
    private static final int BAD = NothingLeft.BAD, STATE = NothingLeft.STATE, NONE = NothingLeft.NONE;
    private static final String SIX = "thing 4 1 1;".repeat(6);

    public static void main(String[] args) {
        weekOfDays();
        putByAge();
        putByUnits();
        putWhatThereWas();
        hasByAge();
        hasMoreThanCanBePut();
        guestsWantOneMore();
        nobodyInFirst();
        tooLateByAgain();
        againOnTheSameDay();
        lackingNotBought();
        mayOfNoSupper();
        packsTheFewest();
        lacksOfAny();
        lacksTaken();
        lacksWrong();
        oldestFirst();
        soupOldestFirst();
        restOfPacksAndWhatIsLeft();
        eatOncePerDay();
        eatRefusedInOrder();
        nightByKeeps();
        nightOfNothing();
        nowAsked();
        lastDay();
        keepTwoImages();
        backToImages();
        imageIsAll();
        Check.finish("LarderEdgeTest");
    }

    private static void larder(String name, NothingLeft x, int t, int... units) {
        for (int age = 0; age <= 3; age++) {
            Check.due(name + ", thing " + t + " of age " + age, x.has(t, age), units[age]);
        }
    }

    private static void nights(NothingLeft x, int nights) {
        for (int i = 0; i < nights; i++) {
            x.night();
        }
    }

    // "DAYS are numbered (0 first); the DAY of the week is that modulo 7."
    private static void weekOfDays() {
        for (int w = 0; w < 7; w++) {
            NothingLeft out = Check.told("first;out " + w + ";");
            NothingLeft shop = Check.told("thing 1 1 1;first a 1;shop " + w + ";");
            NothingLeft guest = Check.told("thing 1 1 0;second a 1;guest " + w + " 1;");
            guest.day(0);
            for (int day = 0; day <= 21; day++) {
                boolean isThatDay = day % 7 == w;
                Check.due("nobody in on day " + w + ", day " + day, out.may(0, false), isThatDay ? 1 : 0);
                Check.due("shop on day " + w + ", day " + day, shop.may(0, false), isThatDay ? 0 : 3);
                Check.due("packs", shop.lacks(0, false, 0, 1), isThatDay ? 1 : 0);
                guest.put(0, 0, 1);
                Check.due("guests on day " + w + ", day " + day, guest.bears(0), isThatDay ? 3 : 1);
                Check.due("parts", guest.bears(1), isThatDay ? 4 : 1);
                Check.due("day", out.now(0), day);
                out.night();
                shop.night();
                guest.night();
            }
        }
    }

    // "Units of a THING by AGE (0 to KEEPS less 1)"
    private static void putByAge() {
        for (int keeps = 1; keeps <= 4; keeps++) {
            NothingLeft x = Check.told("thing 4 1 1;thing " + keeps + " 1 1;");
            for (int age = 0; age < keeps; age++) {
                Check.due("put by age " + age, x.put(1, age, age + 1), 0);
            }
            for (int age : Check.outside(0, keeps - 1)) {
                Check.due("put by age " + age + " of " + keeps, x.put(1, age, 1), BAD);
            }
            for (int age = 0; age <= 3; age++) {
                Check.due("units of age " + age, x.has(1, age), age < keeps ? age + 1 : 0);
                Check.due("none of the other", x.has(0, age), 0);
            }
        }
        NothingLeft six = Check.told(SIX);
        Check.due("the last thing", six.put(5, 3, 9), 0);
        for (int t : Check.outside(0, 5)) {
            Check.due("put of thing " + t, six.put(t, 0, 1), BAD);
        }
        Check.due("nothing but that", six.now(5), 9);
    }

    // "become v (0 to 9)"
    private static void putByUnits() {
        NothingLeft x = Check.told("thing 4 1 1;");
        int before = 0;
        for (int v = 0; v <= 9; v++) {
            Check.due("put of " + v, x.put(0, 0, v), before);
            Check.due("units", x.has(0, 0), v);
            before = v;
        }
        for (int v : Check.outside(0, 9)) {
            Check.due("put of " + v, x.put(0, 0, v), BAD);
            Check.due("units stay", x.has(0, 0), 9);
        }
        Check.due("put of 0", x.put(0, 0, 0), 9);
        Check.due("none", x.has(0, 0), 0);
    }

    // "what they were. BAD."
    private static void putWhatThereWas() {
        NothingLeft x = Check.told("thing 4 1 0;first leaves a 3;again 0;");
        x.put(0, 0, 9);
        x.eat(0, false);
        Check.due("more than could be put", x.put(0, 0, 9), 12);
        Check.due("nine", x.put(0, 0, 9), 9);
        Check.due("of another age", x.put(0, 1, 9), 0);
        x.night();
        Check.due("a night on", x.put(0, 1, 0), 9);
        Check.due("and older", x.put(0, 2, 0), 9);
    }

    // "Units of a THING by AGE (0 to 3). BAD."
    private static void hasByAge() {
        NothingLeft x = Check.told("thing 1 1 1;thing 4 1 1;");
        x.put(0, 0, 7);
        x.put(1, 3, 8);
        larder("keeps 1", x, 0, 7, 0, 0, 0);
        larder("keeps 4", x, 1, 0, 0, 0, 8);
        for (int age : Check.outside(0, 3)) {
            Check.due("has of age " + age, x.has(0, age), BAD);
            Check.due("has of age " + age, x.has(1, age), BAD);
        }
        for (int t : Check.outside(0, 1)) {
            Check.due("has of thing " + t, x.has(t, 0), BAD);
        }
        Check.due("the sixth thing", Check.told(SIX).has(5, 3), 0);
        Check.due("a seventh", Check.told(SIX).has(6, 0), BAD);
    }

    private static void hasMoreThanCanBePut() {
        NothingLeft x = Check.told("thing 4 4 1;first a 1 leaves a 3;");
        x.put(0, 1, 9);
        x.put(0, 2, 9);
        x.put(0, 3, 9);
        x.put(0, 0, 9);
        x.eat(0, false);
        larder("all that can be put, and more", x, 0, 12, 9, 9, 8);
        Check.due("in all", x.now(5), 38);
    }

    // "with guests of each THING 1 more (any: 1 more; feast: as it is)"
    private static void guestsWantOneMore() {
        NothingLeft x = Check.told(SIX + "first a 3 f 1;second a 3 f 1;feast a 3 f 1;any 9 af;any 1 f;");
        int[][] without = { { 3, 1 }, { 3, 1 }, { 3, 1 }, { 9, 9 }, { 0, 1 } };
        int[][] with = { { 4, 2 }, { 4, 2 }, { 3, 1 }, { 10, 10 }, { 0, 2 } };
        for (int s = 0; s < 5; s++) {
            Check.due("a for " + s, x.lacks(s, false, 0, 0), without[s][0]);
            Check.due("f for " + s, x.lacks(s, false, 5, 0), without[s][1]);
            Check.due("a for " + s + " with guests", x.lacks(s, true, 0, 0), with[s][0]);
            Check.due("f for " + s + " with guests", x.lacks(s, true, 5, 0), with[s][1]);
            Check.due("b is not wanted by " + s, x.lacks(s, true, 1, 0), 0);
        }
        for (int units = 0; units <= 4; units++) {
            NothingLeft y = Check.told("thing 4 1 1;second a 3;feast a 3;any 3 a;shop;");
            y.put(0, 0, units);
            Check.due("second, " + units, y.may(0, false), units >= 3 ? 0 : 3);
            Check.due("second with guests, " + units, y.may(0, true), units >= 4 ? 0 : 3);
            Check.due("feast, " + units, y.may(1, false), units >= 3 ? 0 : 3);
            Check.due("feast with guests, " + units, y.may(1, true), units >= 3 ? 0 : 3);
            Check.due("any, " + units, y.may(2, false), units >= 3 ? 0 : 3);
            Check.due("any with guests, " + units, y.may(2, true), units >= 4 ? 0 : 3);
        }
        NothingLeft nine = Check.told("thing 4 1 1;any 9 a;");
        nine.put(0, 0, 9);
        Check.due("nine are enough", nine.may(0, false), 0);
        Check.due("not with guests", nine.may(0, true), 3);
        nine.put(0, 1, 1);
        Check.due("ten are", nine.may(0, true), 0);
        NothingLeft none = Check.told("first;second;feast;");
        for (int s = 0; s < 3; s++) {
            Check.due("what wants nothing wants nothing more", none.may(s, true), 0);
        }
    }

    // "by the first that is so: 1 that DAY of the week nobody is in"
    private static void nobodyInFirst() {
        NothingLeft x = Check.told("thing 1 1 0;second a 1;first;out 1;again 2;");
        x.put(0, 0, 1);
        Check.due("eaten", x.eat(0, false), 0);
        Check.due("too soon ahead of lacking", x.may(0, false), 2);
        x.night();
        Check.due("nobody in ahead of too soon and lacking", x.may(0, false), 1);
        Check.due("nobody in alone", x.may(1, false), 1);
        Check.due("with guests, too", x.may(1, true), 1);
        x.night();
        Check.due("lacking alone", x.may(0, false), 3);
        Check.due("none of them", x.may(1, false), 0);
    }

    // "2 it was eaten too late: the DAY less that on which it was eaten last is below again"
    private static void tooLateByAgain() {
        for (int again = 0; again <= 7; again++) {
            NothingLeft x = Check.told("first;second;again " + again + ";");
            nights(x, 3);
            Check.due("never eaten", x.may(0, false), 0);
            x.eat(0, false);
            for (int on = 0; on <= 9; on++) {
                Check.due("again " + again + ", " + on + " days on", x.may(0, false), on < again ? 2 : 0);
                Check.due("the other one", x.may(1, false), 0);
                x.night();
            }
        }
        NothingLeft far = Check.told("first;again 7;");
        far.eat(0, false);
        nights(far, 490);
        Check.due("490 days on", far.may(0, false), 0);
        far.eat(0, false);
        far.night();
        Check.due("the last one counts", far.may(0, false), 2);
    }

    private static void againOnTheSameDay() {
        NothingLeft x = Check.told("first;again 0;");
        x.eat(0, false);
        Check.due("0 is not below 0", x.may(0, false), 0);
        Check.due("but there was one today", x.eat(0, false), STATE);
        NothingLeft y = Check.told("first;again 1;");
        y.eat(0, false);
        Check.due("0 is below 1", y.may(0, false), 2);
        y.night();
        Check.due("1 is not", y.may(0, false), 0);
    }

    // "3 something is lacking that is not bought: .. (not, if the PRICE is 0, nor on a DAY that is no shop); second and any buy nothing"
    private static void lackingNotBought() {
        String[] kinds = { "first a 1", "second a 1", "feast a 1", "any 1 a" };
        for (int kind = 0; kind < 4; kind++) {
            for (int price : new int[] { 0, 1, 60 }) {
                for (int shop = 0; shop <= 1; shop++) {
                    NothingLeft x = Check.told("thing 4 2 " + price + ";" + kinds[kind] + ";shop " + (shop == 1 ? "0" : "1") + ";");
                    boolean isBought = kind % 2 == 0 && price > 0 && shop == 1;
                    String name = kinds[kind] + " for " + price + (shop == 1 ? "" : ", no shop");
                    Check.due(name, x.may(0, false), isBought ? 0 : 3);
                    Check.due("lacking, " + name, x.lacks(0, false, 0, 0), 1);
                    Check.due("packs, " + name, x.lacks(0, false, 0, 1), isBought ? 1 : 0);
                    Check.due("eaten, " + name, x.eat(0, false), isBought ? price : STATE);
                    x.put(0, 0, 1);
                    Check.due("it is there, " + name, x.may(0, false), 0);
                }
            }
        }
        NothingLeft last = Check.told("thing 4 1 1;".repeat(5) + "thing 4 1 0;first a 1 b 1 c 1 d 1 e 1 f 1;");
        Check.due("the last thing alone is not bought", last.may(0, false), 3);
        Check.due("packs of the first one", last.lacks(0, false, 0, 1), 1);
        last.put(5, 0, 1);
        Check.due("it is there", last.may(0, false), 0);
    }

    // "Why a SUPPER MAY not be today: 1 to 3; 0: it MAY. BAD."
    private static void mayOfNoSupper() {
        NothingLeft x = Check.told("first;".repeat(8) + "out 0;");
        for (int s = 0; s < 8; s++) {
            Check.due("supper " + s, x.may(s, false), 1);
        }
        for (int s : Check.outside(0, 7)) {
            Check.due("supper " + s, x.may(s, false), BAD);
            Check.due("supper " + s, x.may(s, true), BAD);
        }
    }

    // "buy what is lacking by PACKS, the fewest"
    private static void packsTheFewest() {
        int[][] packs = { { 1, 2, 3, 4 }, { 1, 1, 2, 2 }, { 1, 1, 1, 2 }, { 1, 1, 1, 1 } };
        int[][] rests = { { 0, 0, 0, 0 }, { 1, 0, 1, 0 }, { 2, 1, 0, 2 }, { 3, 2, 1, 0 } };
        for (int pack = 1; pack <= 4; pack++) {
            for (int wanted = 1; wanted <= 4; wanted++) {
                boolean guests = wanted == 4;
                NothingLeft x = Check.told("thing 4 " + pack + " 60;first a " + Math.min(3, wanted) + ";");
                String name = wanted + " by " + pack;
                Check.due("lacking, " + name, x.lacks(0, guests, 0, 0), wanted);
                Check.due("packs, " + name, x.lacks(0, guests, 0, 1), packs[pack - 1][wanted - 1]);
                Check.due("out of the larder, " + name, x.lacks(0, guests, 0, 2), 0);
                Check.due("paid, " + name, x.eat(0, guests), packs[pack - 1][wanted - 1] * 60);
                larder("rest, " + name, x, 0, rests[pack - 1][wanted - 1], 0, 0, 0);
            }
        }
        NothingLeft all = Check.told("thing 4 1 60;".repeat(6) + "first a 3 b 3 c 3 d 3 e 3 f 3;");
        Check.due("the dearest supper of all", all.eat(0, true), 6 * 4 * 60);
        Check.due("paid in all", all.now(2), 1440);
        Check.due("no rest", all.now(5), 0);
        NothingLeft none = Check.told("thing 4 4 60;first a 3;");
        none.put(0, 2, 3);
        Check.due("nothing lacking, no pack", none.lacks(0, false, 0, 1), 0);
        Check.due("nothing paid", none.eat(0, false), 0);
        Check.due("nothing left", none.now(5), 0);
    }

    // "units that are lacking (what 0; any: of all of its THINGS together, told for each of them)"
    private static void lacksOfAny() {
        NothingLeft x = Check.told("thing 4 1 9;thing 4 1 9;thing 4 1 9;any 5 ca;");
        for (int units = 0; units <= 6; units++) {
            x.put(0, 3, units / 2);
            x.put(2, 0, units - units / 2);
            x.put(1, 1, units);
            Check.due("lacking of a", x.lacks(0, false, 0, 0), Math.max(0, 5 - units));
            Check.due("lacking of c", x.lacks(0, false, 2, 0), Math.max(0, 5 - units));
            Check.due("lacking of a with guests", x.lacks(0, true, 0, 0), 6 - units);
            Check.due("b is none of its things", x.lacks(0, false, 1, 0), 0);
            Check.due("nothing is bought", x.lacks(0, false, 0, 1), 0);
            Check.due("nor of b", x.lacks(0, false, 1, 1), 0);
        }
    }

    // "units out of THE LARDER that it would take (2)"
    private static void lacksTaken() {
        NothingLeft x = Check.told("thing 4 2 9;first a 3;feast a 3;any 3 a;second a 3;");
        for (int units = 0; units <= 5; units++) {
            x.put(0, 1, units);
            for (int s = 0; s < 4; s++) {
                Check.due("taken of " + units + " by " + s, x.lacks(s, false, 0, 2), Math.min(3, units));
                Check.due("taken with guests", x.lacks(s, true, 0, 2), Math.min(s == 1 ? 3 : 4, units));
            }
        }
        Check.due("nothing is taken by asking", x.has(0, 1), 5);
    }

    private static void lacksWrong() {
        NothingLeft x = Check.told(SIX + "first f 1;".repeat(8) + "out 0;");
        Check.due("on a day on which nobody is in", x.lacks(7, false, 5, 0), 1);
        for (int what : Check.outside(0, 2)) {
            Check.due("what " + what, x.lacks(7, false, 5, what), BAD);
        }
        for (int s : Check.outside(0, 7)) {
            Check.due("supper " + s, x.lacks(s, false, 5, 0), BAD);
        }
        for (int t : Check.outside(0, 5)) {
            Check.due("thing " + t, x.lacks(7, false, t, 0), BAD);
        }
    }

    // "It takes of each THING the oldest units first"
    private static void oldestFirst() {
        int[][] behind = { { 1, 1, 1, 1 }, { 1, 1, 1, 0 }, { 1, 1, 0, 0 }, { 1, 0, 0, 0 }, { 0, 0, 0, 0 } };
        for (int wanted = 1; wanted <= 4; wanted++) {
            NothingLeft x = Check.told("thing 4 1 1;thing 4 1 1;second a " + Math.min(3, wanted) + ";");
            for (int age = 0; age <= 3; age++) {
                x.put(0, age, 1);
                x.put(1, age, 1);
            }
            x.eat(0, wanted == 4);
            larder("taken " + wanted, x, 0, behind[wanted]);
            larder("of the other none", x, 1, 1, 1, 1, 1);
        }
        NothingLeft y = Check.told("thing 4 1 1;second a 3;");
        y.put(0, 2, 2);
        y.put(0, 0, 9);
        y.eat(0, false);
        larder("over a gap", y, 0, 8, 0, 0, 0);
    }

    // "(any: out of all of its THINGS the oldest first, of the same AGE the lesser THING first)"
    private static void soupOldestFirst() {
        // Taken one by one: b of 3, c of 3, a of 2, a of 0, b of 0, c of 0.
        int[][] taken = { { 0, 0, 0 }, { 0, 1, 0 }, { 0, 1, 1 }, { 1, 1, 1 }, { 2, 1, 1 }, { 2, 2, 1 }, { 2, 2, 2 } };
        for (int wanted = 1; wanted <= 6; wanted++) {
            NothingLeft x = Check.told("thing 4 1 1;thing 4 1 1;thing 4 1 1;any " + wanted + " cba;");
            x.put(0, 2, 1);
            x.put(1, 3, 1);
            x.put(2, 3, 1);
            for (int t = 0; t < 3; t++) {
                x.put(t, 0, 1);
            }
            for (int t = 0; t < 3; t++) {
                Check.due("taken of thing " + t + ", " + wanted, x.lacks(0, false, t, 2), taken[wanted][t]);
            }
            Check.due("eaten", x.eat(0, false), 0);
            for (int t = 0; t < 3; t++) {
                int left = 2 - taken[wanted][t];
                larder(wanted + " taken", x, t, left > 0 ? 1 : 0, 0, t == 0 && left > 1 ? 1 : 0, t > 0 && left > 1 ? 1 : 0);
            }
        }
    }

    // "of what was bought the rest is in THE LARDER, AGE 0; then what it leaves, too"
    private static void restOfPacksAndWhatIsLeft() {
        NothingLeft x = Check.told("thing 4 4 5;thing 1 1 1;first a 2 leaves a 3 b 1;again 0;");
        x.put(0, 0, 1);
        x.put(1, 0, 9);
        Check.due("a pack", x.eat(0, false), 5);
        larder("rest and what is left", x, 0, 3 + 3, 0, 0, 0);
        larder("left to what was there", x, 1, 10, 0, 0, 0);
        Check.due("what is left is not eaten at once", x.lacks(0, false, 0, 2), 2);
        NothingLeft y = Check.told("thing 4 1 0;second a 1 leaves a 3;");
        Check.due("what it leaves is not there ahead of it", y.eat(0, false), STATE);
        y.put(0, 3, 1);
        Check.due("eaten", y.eat(0, false), 0);
        larder("left", y, 0, 3, 0, 0, 0);
    }

    // "STATE: it MAY not be, or there was one today."
    private static void eatOncePerDay() {
        NothingLeft x = Check.told("first like 1;second like 2;feast like 4;");
        Check.due("one", x.eat(1, false), 0);
        for (int s = 0; s < 3; s++) {
            Check.due("it may be", x.may(s, false), 0);
            Check.due("there was one today", x.eat(s, false), STATE);
        }
        Check.due("one is liked", x.now(4), 2);
        Check.due("one is eaten", x.now(1), 1);
        Check.due("the others never", x.last(0), NONE);
        x.night();
        Check.due("the next day", x.eat(2, true), 0);
        Check.due("there was one today", x.eat(1, false), STATE);
        Check.due("liked", x.now(4), 6);
    }

    // "BAD; STATE" - "the first that fits"
    private static void eatRefusedInOrder() {
        NothingLeft x = Check.told("first;".repeat(7) + "second;");
        for (int s : Check.outside(0, 7)) {
            Check.due("supper " + s, x.eat(s, false), BAD);
        }
        Check.due("the last one", x.eat(7, false), 0);
        for (int s : Check.outside(0, 7)) {
            Check.due("supper " + s + ", there was one today", x.eat(s, false), BAD);
        }
    }

    // "AGES of all go on by 1; what is as old as it KEEPS is THROWN."
    private static void nightByKeeps() {
        for (int keeps = 1; keeps <= 4; keeps++) {
            NothingLeft x = Check.told("thing 4 1 1;thing " + keeps + " 1 1;");
            int[] units = new int[4];
            int inAll = 0;
            for (int age = 0; age < keeps; age++) {
                units[age] = age + 2;
                inAll += units[age];
                x.put(1, age, units[age]);
            }
            x.put(0, 0, 1);
            int thrown = 0;
            for (int night = 1; night <= keeps; night++) {
                int oldest = units[keeps - 1];
                thrown += oldest;
                Check.due("thrown in night " + night + " of what keeps " + keeps, x.night(), oldest + (night == 4 ? 1 : 0));
                System.arraycopy(units, 0, units, 1, 3);
                units[0] = 0;
                for (int age = keeps; age <= 3; age++) {
                    units[age] = 0;
                }
                larder("behind night " + night, x, 1, units);
                Check.due("thrown in all", x.now(3), thrown + (night == 4 ? 1 : 0));
                Check.due("what keeps 4", x.has(0, Math.min(3, night)), night < 4 ? 1 : 0);
            }
            Check.due("all thrown", thrown, inAll);
        }
    }

    // "A NIGHT: units that are THROWN." "The next DAY begins."
    private static void nightOfNothing() {
        NothingLeft x = new NothingLeft();
        Check.due("a night without things", x.night(), 0);
        Check.due("day 1", x.now(0), 1);
        NothingLeft y = Check.told(SIX + "first;");
        y.eat(0, false);
        Check.due("a night of an empty larder", y.night(), 0);
        Check.due("nothing was eaten on the next day", y.now(1), NONE);
        for (int t = 0; t < 6; t++) {
            for (int age = 0; age <= 3; age++) {
                y.put(t, age, 9);
            }
        }
        Check.due("a full larder", y.now(5), 216);
        Check.due("a night of it", y.night(), 54);
        Check.due("what stays", y.now(5), 162);
        Check.due("thrown in all", y.now(3), 54);
    }

    // "1 the SUPPER that was eaten today (NONE) .. BAD."
    private static void nowAsked() {
        NothingLeft x = Check.told("first;".repeat(8));
        Check.due("day 0", x.now(0), 0);
        Check.due("none today", x.now(1), NONE);
        for (int s : new int[] { 0, 7 }) {
            x.eat(s, false);
            Check.due("eaten today", x.now(1), s);
            x.night();
            Check.due("none today", x.now(1), NONE);
        }
        for (int what : Check.outside(0, 5)) {
            Check.due("now " + what, x.now(what), BAD);
        }
    }

    // "The DAY on which a SUPPER was eaten last (NONE). BAD."
    private static void lastDay() {
        NothingLeft x = Check.told("first;".repeat(8));
        for (int s = 0; s < 8; s++) {
            Check.due("never", x.last(s), NONE);
        }
        x.eat(7, false);
        Check.due("day 0", x.last(7), 0);
        Check.due("never", x.last(6), NONE);
        nights(x, 8);
        Check.due("day 0 yet", x.last(7), 0);
        x.eat(7, false);
        Check.due("day 8", x.last(7), 8);
        Check.due("refused", x.eat(6, false), STATE);
        Check.due("never", x.last(6), NONE);
        for (int s : Check.outside(0, 7)) {
            Check.due("supper " + s, x.last(s), BAD);
        }
    }

    // "IMAGE i (0, 1) is all that is now ..: whether there was one (1, 0). BAD."
    private static void keepTwoImages() {
        NothingLeft x = Check.told("first;");
        for (int i = 0; i <= 1; i++) {
            Check.due("none yet", x.keep(i), 0);
            Check.due("there was one", x.keep(i), 1);
            Check.due("images", x.count(3), i + 1);
        }
        for (int i : Check.outside(0, 1)) {
            Check.due("keep(" + i + ")", x.keep(i), BAD);
            Check.due("back(" + i + ")", x.back(i), BAD);
        }
        Check.due("two images", x.count(3), 2);
        Check.due("a new object keeps, too", new NothingLeft().keep(1), 0);
    }

    // "All is as IMAGE i: its DAY. BAD; STATE: there is none."
    private static void backToImages() {
        NothingLeft x = Check.told("thing 4 1 1;first;");
        Check.due("none", x.back(0), STATE);
        Check.due("none", x.back(1), STATE);
        nights(x, 3);
        x.keep(1);
        Check.due("none yet", x.back(0), STATE);
        nights(x, 4);
        x.keep(0);
        Check.due("back to day 3", x.back(1), 3);
        Check.due("on to day 7", x.back(0), 7);
        Check.due("back to day 3", x.back(1), 3);
        Check.due("it is day 3", x.now(0), 3);
        Check.text(x, "!");
        Check.due("a text that is refused leaves it", x.back(0), 7);
        Check.text(x, "first;");
        Check.due("one that is taken does not", x.back(0), STATE);
        Check.due("nor the other", x.back(1), STATE);
    }

    // "(THE LARDER, the DAY, what was eaten, sums)"
    private static void imageIsAll() {
        NothingLeft x = Check.told("thing 4 2 7;thing 1 1 0;first a 1 leaves b 2 like 3;second like 1;again 3;");
        x.eat(0, false);
        x.night();
        x.eat(1, false);
        x.put(1, 0, 4);
        x.keep(0);
        x.night();
        nights(x, 2);
        x.eat(0, true);
        x.put(0, 3, 9);
        Check.due("its day", x.back(0), 1);
        int[] due = { 1, 1, 7, 2, 4, 5 };
        for (int what = 0; what <= 5; what++) {
            Check.due("now " + what + " of the image", x.now(what), due[what]);
        }
        larder("of the image", x, 0, 0, 1, 0, 0);
        larder("of the image", x, 1, 4, 0, 0, 0);
        Check.due("eaten last", x.last(0), 0);
        Check.due("eaten last", x.last(1), 1);
        Check.due("one was eaten that day", x.eat(1, false), STATE);
        Check.due("too soon there", x.may(0, false), 2);
        x.put(0, 1, 8);
        Check.due("the image stays", x.back(0), 1);
        larder("of the image", x, 0, 0, 1, 0, 0);
        NothingLeft all = Check.told(SIX + "first;".repeat(8));
        for (int s = 0; s < 8; s++) {
            all.eat(s, false);
            all.night();
        }
        for (int i = 0; i < 24; i++) {
            all.put(i / 4, i % 4, 1 + i % 9);
        }
        all.keep(1);
        nights(all, 4);
        all.eat(7, false);
        all.night();
        Check.due("its day", all.back(1), 8);
        for (int s = 0; s < 8; s++) {
            Check.due("eaten last, supper " + s, all.last(s), s);
        }
        for (int i = 0; i < 24; i++) {
            Check.due("units of all", all.has(i / 4, i % 4), 1 + i % 9);
        }
    }
}
