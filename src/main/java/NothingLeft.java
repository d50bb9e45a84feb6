/**
 * Nothing left over: suppers out of what is bought and out of what earlier ones left.
 *
 * All calls of a run live in one room, so everything is made in constructors and used again;
 * no call makes an object.
 */
public final class NothingLeft {
    public static final int BAD = -1, STATE = -2, FULL = -3, NONE = -4;

    private static final int THINGS = 6, SUPPERS = 8, PEOPLE = 4, AGES = 4, WEEK = 7, UNITS = 9, DEAREST = 60;
    private static final int FIRST = 0, SECOND = 1, FEAST = 2, ANY = 3;
    private static final int NOBODY_IN = 1, TOO_SOON = 2, LACKING = 3;
    private static final int TAPE = 400, ROW = 7, IMAGES = 2, PLAN = 5, PLAN_WITH_GUESTS = 3, PLAN_WITH_DISH = 4;
    private static final int SHEETS = 4, LANES = 3, CELLS = 40, LOTS = 12;
    private static final int NULL = 1, INDEX = 2, CAST = 3, SIZE = 4;

    private final Rules rules = new Rules();
    private final Rules otherRules = new Rules();
    private final Reader reader = new Reader();
    private int textFault = 0;

    private final Kitchen kitchen = new Kitchen();
    private final Kitchen[] images = { new Kitchen(), new Kitchen() };
    private final boolean[] imageKept = new boolean[IMAGES];

    private final int[] rowByHand = new int[ROW];
    private int rowDays = 0;
    private final Walk walk = new Walk();
    private final Search search = new Search();

    private final Sheets sheets = new Sheets();
    private int tornFault = 0;

    public NothingLeft() {
    }

    // ---- the text

    public int feed(long v) {
        if (reader.length > TAPE - 8) {
            return FULL;
        }
        for (int shift = 56; shift >= 0; shift -= 8) {
            reader.tape[reader.length] = (byte) (v >>> shift);
            reader.length++;
        }
        return reader.length;
    }

    public int end(int n) {
        if (n < 0 || n > reader.length) {
            return BAD;
        }
        int before = reader.length;
        reader.length = n;
        return before;
    }

    public int text() {
        int lines = reader.readTape();
        reader.length = 0;
        textFault = reader.faultFound;
        if (textFault != 0) {
            return -10 - reader.faultPlace;
        }
        rules.copyFrom(reader.told);
        kitchen.reset();
        rowDays = 0;
        for (int i = 0; i < IMAGES; i++) {
            imageKept[i] = false;
        }
        return lines;
    }

    public int fault() {
        return textFault;
    }

    public int thing(int t, int what) {
        if (!rules.hasThing(t)) {
            return BAD;
        }
        switch (what) {
            case 0: return rules.keeps[t];
            case 1: return rules.pack[t];
            case 2: return rules.price[t];
            default: return BAD;
        }
    }

    public int supper(int s, int what) {
        if (!rules.hasSupper(s)) {
            return BAD;
        }
        if (what >= 20) {
            return rules.hasThing(what - 20) ? rules.leaves[s * THINGS + what - 20] : BAD;
        }
        if (what >= 10) {
            return rules.hasThing(what - 10) ? rules.wants[s * THINGS + what - 10] : BAD;
        }
        switch (what) {
            case 0: return rules.kind[s];
            case 1: return rules.likes[s];
            case 2: return rules.wont[s];
            case 3: return rules.soupUnits[s];
            case 4: return rules.thingsOf(s);
            default: return BAD;
        }
    }

    public int rule(int what) {
        if (what >= 10 && what < 10 + WEEK) {
            return rules.chances[what - 10];
        }
        switch (what) {
            case 0: return rules.daysBetween;
            case 1: return rules.shops;
            case 2: return rules.outs;
            default: return BAD;
        }
    }

    // ---- the larder, day by day

    public int put(int t, int age, int v) {
        if (!canPut(t, age, v)) {
            return BAD;
        }
        int before = kitchen.units[t * AGES + age];
        kitchen.units[t * AGES + age] = v;
        return before;
    }

    private boolean canPut(int t, int age, int v) {
        return rules.hasThing(t) && age >= 0 && age < rules.keeps[t] && v >= 0 && v <= UNITS;
    }

    public int has(int t, int age) {
        return rules.hasThing(t) && age >= 0 && age < AGES ? kitchen.units[t * AGES + age] : BAD;
    }

    public int may(int s, boolean guests) {
        return rules.hasSupper(s) ? kitchen.whyNot(rules, s, guests) : BAD;
    }

    public int lacks(int s, boolean guests, int t, int what) {
        if (!rules.hasSupper(s) || !rules.hasThing(t)) {
            return BAD;
        }
        switch (what) {
            case 0: return kitchen.lacking(rules, s, guests, t);
            case 1: return kitchen.packs(rules, s, guests, t);
            case 2: return kitchen.taking(rules, s, guests, t);
            default: return BAD;
        }
    }

    public int eat(int s, boolean guests) {
        if (!rules.hasSupper(s)) {
            return BAD;
        }
        if (kitchen.eatenToday != NONE || kitchen.whyNot(rules, s, guests) != 0) {
            return STATE;
        }
        return kitchen.serve(rules, s, guests);
    }

    public int night() {
        return kitchen.passNight(rules);
    }

    public int now(int what) {
        switch (what) {
            case 0: return kitchen.date;
            case 1: return kitchen.eatenToday;
            case 2: return kitchen.paid;
            case 3: return kitchen.thrown;
            case 4: return kitchen.liked;
            case 5: return kitchen.unitsInAll();
            default: return BAD;
        }
    }

    public int last(int s) {
        return rules.hasSupper(s) ? kitchen.eatenLast[s] : BAD;
    }

    public int keep(int i) {
        if (i < 0 || i >= IMAGES) {
            return BAD;
        }
        int before = imageKept[i] ? 1 : 0;
        images[i].copyFrom(kitchen);
        imageKept[i] = true;
        return before;
    }

    public int back(int i) {
        if (i < 0 || i >= IMAGES) {
            return BAD;
        }
        if (!imageKept[i]) {
            return STATE;
        }
        kitchen.copyFrom(images[i]);
        return kitchen.date;
    }

    // ---- the row

    public int day(int s) {
        if (s != NONE && !rules.hasSupper(s)) {
            return BAD;
        }
        if (rowDays >= ROW) {
            return FULL;
        }
        rowByHand[rowDays] = s;
        rowDays++;
        return rowDays;
    }

    public int clear() {
        int before = rowDays;
        rowDays = 0;
        return before;
    }

    public int row(int what) {
        boolean ofOne = what >= 10 && what < 10 + PEOPLE;
        if (!ofOne && (what < 0 || what > 5)) {
            return BAD;
        }
        int days = walk.go(rules, kitchen, rowByHand, rowDays, 0);
        if (ofOne) {
            return rules.timesFed(rowByHand, days, what - 10);
        }
        switch (what) {
            case 0: return days < rowDays ? days : NONE;
            case 1: return walk.why;
            case 2: return walk.behind.paid;
            case 3: return walk.behind.thrown;
            case 4: return walk.behind.liked;
            default: return days == rowDays && rowByHandCloses() ? 1 : 0;
        }
    }

    /** Asked when the row has been walked through to its end. */
    private boolean rowByHandCloses() {
        if (rowDays < 1 || rowDays > PLAN) {
            return false;
        }
        for (int i = 0; i < rowDays; i++) {
            if (rowByHand[i] == NONE && !rules.isOut(kitchen.date + i)) {
                return false;
            }
        }
        return rules.isClosed(kitchen, walk.behind, rowByHand, rowDays);
    }

    public int bears(int what) {
        if (what < 0 || what > 1) {
            return BAD;
        }
        return lowestTerms(walk.bearing(rules, kitchen, rowByHand, rowDays), rowDays, what);
    }

    /** Of weight / 4^days in lowest terms: the numerator (0) or the denominator (1). */
    private static int lowestTerms(int weight, int days, int what) {
        int numerator = weight;
        int denominator = 1 << (2 * days);
        for (; denominator > 1 && numerator % 2 == 0; denominator /= 2) {
            numerator /= 2;
        }
        return what == 0 ? numerator : denominator;
    }

    // ---- the best

    public int best(int n, int what) {
        boolean ofSum = what >= 0 && what <= 4;
        if (n < 1 || n > PLAN || !ofSum && !isPlace(what, n)) {
            return BAD;
        }
        search.lookAtRows(rules, kitchen, n, false);
        if (what == 4) {
            return search.rows;
        }
        if (search.rows == 0) {
            return NONE;
        }
        switch (what) {
            case 0: return search.bestThrown;
            case 1: return search.bestPaid;
            case 2: return search.bestLiked;
            case 3: return search.rowsAsGood;
            default: return search.bestRow[what - 10];
        }
    }

    private static boolean isPlace(int what, int n) {
        return what >= 10 && what < 10 + n;
    }

    public int fairest(int n, int what) {
        if (n < 1 || n > PLAN || what != 0 && !isPlace(what, n)) {
            return BAD;
        }
        search.lookAtRows(rules, kitchen, n, false);
        if (search.rows == 0) {
            return NONE;
        }
        return what == 0 ? search.fairestFed : search.fairestRow[what - 10];
    }

    public int surest(int n, int what) {
        if (n < 1 || n > PLAN_WITH_GUESTS || what != 0 && what != 1 && !isPlace(what, n)) {
            return BAD;
        }
        search.lookAtRows(rules, kitchen, n, true);
        if (search.rows == 0) {
            return NONE;
        }
        return what <= 1 ? lowestTerms(search.surestWeight, n, what) : search.surestRow[what - 10];
    }

    public int closes(int n, int what) {
        boolean ofAll = what >= 0 && what <= 2;
        if (n < 1 || n > PLAN || !ofAll && !isPlace(what, n)) {
            return BAD;
        }
        search.lookAtRows(rules, kitchen, n, false);
        switch (what) {
            case 0: return search.rowsClosing;
            case 1: return search.suppersClosing;
            case 2: return ((1 << rules.suppers) - 1) & ~search.suppersClosing;
            default: return search.rowsClosing == 0 ? NONE : search.closingRow[what - 10];
        }
    }

    public int shortest() {
        for (int n = 1; n <= PLAN; n++) {
            search.lookAtRows(rules, kitchen, n, false);
            if (search.rowsClosing > 0) {
                return n;
            }
        }
        return NONE;
    }

    public int small(int t, int n) {
        if (!rules.hasThing(t) || n < 1 || n > PLAN_WITH_DISH) {
            return BAD;
        }
        otherRules.copyWithSmallDish(rules, t);
        search.lookAtRows(otherRules, kitchen, n, false);
        return search.rowsClosing;
    }

    public int dish(int n) {
        if (n < 1 || n > PLAN_WITH_DISH) {
            return BAD;
        }
        int chosen = NONE;
        int most = -1;
        for (int t = 0; t < rules.things; t++) {
            otherRules.copyWithSmallDish(rules, t);
            search.lookAtRows(otherRules, kitchen, n, false);
            if (search.rowsClosing > most) {
                most = search.rowsClosing;
                chosen = t;
            }
        }
        return chosen;
    }

    public int cheap(int t, int v, int n) {
        if (!rules.hasThing(t) || v < 0 || v > DEAREST || n < 1 || n > PLAN) {
            return BAD;
        }
        otherRules.copyFrom(rules);
        otherRules.price[t] = v;
        search.lookAtRows(otherRules, kitchen, n, false);
        return search.rows == 0 ? NONE : search.bestPaid;
    }

    public int cold(int t, int n) {
        if (!rules.hasThing(t) || n < 1 || n > PLAN) {
            return BAD;
        }
        otherRules.copyFrom(rules);
        otherRules.keeps[t] = Math.min(AGES, rules.keeps[t] + 1);
        search.lookAtRows(otherRules, kitchen, n, false);
        return search.rows == 0 ? NONE : search.bestThrown;
    }

    // ---- sheets

    public int sheet(int k, int lane, int n) {
        if (k < 0 || k >= SHEETS || lane < 0 || lane >= LANES || n > CELLS) {
            return BAD;
        }
        if (n < 0) {
            return -10 - SIZE;
        }
        sheets.begin(k, lane, n);
        return 1;
    }

    public int lay(int k, int i, int v) {
        if (k < 0 || k >= SHEETS) {
            return BAD;
        }
        if (sheets.isNothing(k)) {
            return -10 - NULL;
        }
        if (i < 0 || i >= sheets.cellCount[k]) {
            return -10 - INDEX;
        }
        sheets.setCell(k, i, v);
        return 1;
    }

    public int read(int k, int lane, int f, int n) {
        if (k < 0 || k >= SHEETS || lane < 0 || lane >= LANES || n < 0 || n > LOTS) {
            return BAD;
        }
        int machineFault = n == 0 ? 0 : sheets.faultAsOf(k, lane);
        int whole = 0;
        for (int i = 0; i < n && machineFault == 0; i++) {
            if (!sheets.isLotWhole(k, f + 3L * i)) {
                machineFault = INDEX;
            } else if (!canPutLot(k, f + 3 * i)) {
                return -20 - i;
            } else {
                whole++;
            }
        }
        for (int i = 0; i < whole; i++) {
            putLot(k, f + 3 * i);
        }
        tornFault = machineFault;
        return whole;
    }

    private boolean canPutLot(int k, int from) {
        return canPut(sheets.cellAt(k, from), sheets.cellAt(k, from + 1), sheets.cellAt(k, from + 2));
    }

    private void putLot(int k, int from) {
        kitchen.units[sheets.cellAt(k, from) * AGES + sheets.cellAt(k, from + 1)] = sheets.cellAt(k, from + 2);
    }

    public int torn() {
        return tornFault;
    }

    public int count(int what) {
        switch (what) {
            case 0: return rules.things;
            case 1: return rules.suppers;
            case 2: return rowDays;
            case 3: return (imageKept[0] ? 1 : 0) + (imageKept[1] ? 1 : 0);
            case 4: return reader.length;
            case 5: return sheets.isNothing(0) ? NONE : sheets.cellCount[0];
            default: return BAD;
        }
    }

    /** What a text tells: the things, the suppers, the days of the week. */
    private static final class Rules {
        int things;
        final int[] keeps = new int[THINGS];
        final int[] pack = new int[THINGS];
        final int[] price = new int[THINGS];

        // One supper more than a text may tell: the small dish.
        int suppers;
        final int[] kind = new int[SUPPERS + 1];
        final int[] likes = new int[SUPPERS + 1];
        final int[] wont = new int[SUPPERS + 1];
        final int[] soupUnits = new int[SUPPERS + 1];
        final int[] soupThings = new int[SUPPERS + 1];
        final int[] wants = new int[(SUPPERS + 1) * THINGS];
        final int[] leaves = new int[(SUPPERS + 1) * THINGS];

        int daysBetween;
        int shops;
        int outs;
        final int[] chances = new int[WEEK];

        Rules() {
            reset();
        }

        void reset() {
            things = 0;
            suppers = 0;
            for (int s = 0; s <= SUPPERS; s++) {
                resetSupper(s);
            }
            daysBetween = 0;
            shops = (1 << WEEK) - 1;
            outs = 0;
            for (int w = 0; w < WEEK; w++) {
                chances[w] = 0;
            }
        }

        private void resetSupper(int s) {
            kind[s] = FIRST;
            likes[s] = 0;
            wont[s] = 0;
            soupUnits[s] = 0;
            soupThings[s] = 0;
            for (int t = 0; t < THINGS; t++) {
                wants[s * THINGS + t] = 0;
                leaves[s * THINGS + t] = 0;
            }
        }

        void copyFrom(Rules other) {
            things = other.things;
            System.arraycopy(other.keeps, 0, keeps, 0, THINGS);
            System.arraycopy(other.pack, 0, pack, 0, THINGS);
            System.arraycopy(other.price, 0, price, 0, THINGS);
            suppers = other.suppers;
            System.arraycopy(other.kind, 0, kind, 0, SUPPERS + 1);
            System.arraycopy(other.likes, 0, likes, 0, SUPPERS + 1);
            System.arraycopy(other.wont, 0, wont, 0, SUPPERS + 1);
            System.arraycopy(other.soupUnits, 0, soupUnits, 0, SUPPERS + 1);
            System.arraycopy(other.soupThings, 0, soupThings, 0, SUPPERS + 1);
            System.arraycopy(other.wants, 0, wants, 0, (SUPPERS + 1) * THINGS);
            System.arraycopy(other.leaves, 0, leaves, 0, (SUPPERS + 1) * THINGS);
            daysBetween = other.daysBetween;
            shops = other.shops;
            outs = other.outs;
            System.arraycopy(other.chances, 0, chances, 0, WEEK);
        }

        /** Asked of rules as a text tells them, which leave a place for it. */
        void copyWithSmallDish(Rules other, int t) {
            copyFrom(other);
            if (suppers > SUPPERS) {
                return;
            }
            kind[suppers] = SECOND;
            wants[suppers * THINGS + t] = 1;
            suppers++;
        }

        boolean hasThing(int t) {
            return t >= 0 && t < things;
        }

        boolean hasSupper(int s) {
            return s >= 0 && s < suppers;
        }

        boolean isOut(int date) {
            return (outs >> Math.floorMod(date, WEEK) & 1) != 0;
        }

        int chanceOfGuests(int date) {
            return chances[Math.floorMod(date, WEEK)];
        }

        boolean isBought(int s, int t, int date) {
            boolean isShop = (shops >> Math.floorMod(date, WEEK) & 1) != 0;
            return isShop && price[t] > 0 && (kind[s] == FIRST || kind[s] == FEAST);
        }

        /** Guests want more of what is wanted anyway, and a feast is enough for them as it is. */
        int wanted(int s, boolean guests, int t) {
            int units = wants[s * THINGS + t];
            return guests && units > 0 && kind[s] != FEAST ? units + 1 : units;
        }

        int soupWanted(int s, boolean guests) {
            return guests ? soupUnits[s] + 1 : soupUnits[s];
        }

        boolean isInSoup(int s, int t) {
            return (soupThings[s] >> t & 1) != 0;
        }

        int thingsOf(int s) {
            int bits = soupThings[s];
            for (int t = 0; t < things; t++) {
                if (wants[s * THINGS + t] > 0) {
                    bits |= 1 << t;
                }
            }
            return bits;
        }

        int timesFed(int[] row, int days, int person) {
            int times = 0;
            for (int i = 0; i < days; i++) {
                if (row[i] != NONE && (wont[row[i]] >> person & 1) == 0) {
                    times++;
                }
            }
            return times;
        }

        int timesFedLeast(int[] row, int days) {
            int least = days;
            for (int p = 0; p < PEOPLE; p++) {
                least = Math.min(least, timesFed(row, days, p));
            }
            return least;
        }

        /** Asked of a row that may be, and that was gone through from ahead to behind. */
        boolean isClosed(Kitchen ahead, Kitchen behind, int[] row, int days) {
            return behind.thrown == 0 && behind.hasSameLarder(ahead) && mayFollowItself(row, days);
        }

        private boolean mayFollowItself(int[] row, int days) {
            for (int i = 0; i < days; i++) {
                if (row[i] != NONE && daysToNext(row, days, i) < daysBetween) {
                    return false;
                }
            }
            return true;
        }

        private static int daysToNext(int[] row, int days, int place) {
            for (int on = 1; on < days; on++) {
                int other = place + on < days ? place + on : place + on - days;
                if (row[other] == row[place]) {
                    return on;
                }
            }
            return days;
        }
    }

    /** All that is now: the larder, the day, what was eaten, the sums. */
    private static final class Kitchen {
        final int[] units = new int[THINGS * AGES];
        final int[] eatenLast = new int[SUPPERS + 1];
        int date;
        int eatenToday;
        int paid;
        int thrown;
        int liked;
        private final int[] taken = new int[THINGS];

        Kitchen() {
            reset();
        }

        void reset() {
            for (int i = 0; i < THINGS * AGES; i++) {
                units[i] = 0;
            }
            for (int s = 0; s <= SUPPERS; s++) {
                eatenLast[s] = NONE;
            }
            date = 0;
            eatenToday = NONE;
            resetSums();
        }

        private void resetSums() {
            paid = 0;
            thrown = 0;
            liked = 0;
        }

        void copyFrom(Kitchen other) {
            System.arraycopy(other.units, 0, units, 0, THINGS * AGES);
            System.arraycopy(other.eatenLast, 0, eatenLast, 0, SUPPERS + 1);
            date = other.date;
            eatenToday = other.eatenToday;
            paid = other.paid;
            thrown = other.thrown;
            liked = other.liked;
        }

        /** A row has sums of its own, and its first day is today, even if something was eaten today. */
        void beginRow(Kitchen from) {
            copyFrom(from);
            resetSums();
        }

        boolean hasSameLarder(Kitchen other) {
            for (int i = 0; i < THINGS * AGES; i++) {
                if (units[i] != other.units[i]) {
                    return false;
                }
            }
            return true;
        }

        int unitsInAll() {
            int sum = 0;
            for (int i = 0; i < THINGS * AGES; i++) {
                sum += units[i];
            }
            return sum;
        }

        private int unitsOf(int t) {
            int sum = 0;
            for (int age = 0; age < AGES; age++) {
                sum += units[t * AGES + age];
            }
            return sum;
        }

        int whyNot(Rules r, int s, boolean guests) {
            if (r.isOut(date)) {
                return NOBODY_IN;
            }
            if (eatenLast[s] != NONE && date - eatenLast[s] < r.daysBetween) {
                return TOO_SOON;
            }
            for (int t = 0; t < r.things; t++) {
                if (lacking(r, s, guests, t) > 0 && !r.isBought(s, t, date)) {
                    return LACKING;
                }
            }
            return 0;
        }

        int lacking(Rules r, int s, boolean guests, int t) {
            if (r.kind[s] != ANY) {
                return Math.max(0, r.wanted(s, guests, t) - unitsOf(t));
            }
            if (!r.isInSoup(s, t)) {
                return 0;
            }
            int open = r.soupWanted(s, guests);
            for (int other = 0; other < r.things; other++) {
                if (r.isInSoup(s, other)) {
                    open -= unitsOf(other);
                }
            }
            return Math.max(0, open);
        }

        int packs(Rules r, int s, boolean guests, int t) {
            if (!r.isBought(s, t, date) || r.pack[t] < 1) {
                return 0;
            }
            return (lacking(r, s, guests, t) + r.pack[t] - 1) / r.pack[t];
        }

        int taking(Rules r, int s, boolean guests, int t) {
            findTaken(r, s, guests);
            return taken[t];
        }

        private void findTaken(Rules r, int s, boolean guests) {
            for (int t = 0; t < r.things; t++) {
                taken[t] = 0;
            }
            if (r.kind[s] == ANY) {
                findTakenBySoup(r, s, guests);
                return;
            }
            for (int t = 0; t < r.things; t++) {
                taken[t] = Math.min(r.wanted(s, guests, t), unitsOf(t));
            }
        }

        private void findTakenBySoup(Rules r, int s, boolean guests) {
            int open = r.soupWanted(s, guests);
            for (int age = AGES - 1; age >= 0; age--) {
                for (int t = 0; t < r.things; t++) {
                    int more = r.isInSoup(s, t) ? Math.min(open, units[t * AGES + age]) : 0;
                    taken[t] += more;
                    open -= more;
                }
            }
        }

        /** Asked of a supper that may be. */
        int serve(Rules r, int s, boolean guests) {
            int cost = 0;
            findTaken(r, s, guests);
            for (int t = 0; t < r.things; t++) {
                int packs = packs(r, s, guests, t);
                int rest = packs == 0 ? 0 : packs * r.pack[t] - lacking(r, s, guests, t);
                takeOldest(t, taken[t]);
                units[t * AGES] += rest + r.leaves[s * THINGS + t];
                cost += packs * r.price[t];
            }
            eatenLast[s] = date;
            eatenToday = s;
            paid += cost;
            liked += r.likes[s];
            return cost;
        }

        private void takeOldest(int t, int wanted) {
            int open = wanted;
            for (int age = AGES - 1; age >= 0 && open > 0; age--) {
                int more = Math.min(open, units[t * AGES + age]);
                units[t * AGES + age] -= more;
                open -= more;
            }
        }

        int passNight(Rules r) {
            int lost = 0;
            for (int t = 0; t < r.things; t++) {
                for (int age = AGES - 1; age >= 0; age--) {
                    int here = units[t * AGES + age];
                    units[t * AGES + age] = 0;
                    if (age + 1 < r.keeps[t]) {
                        units[t * AGES + age + 1] = here;
                    } else {
                        lost += here;
                    }
                }
            }
            thrown += lost;
            date++;
            eatenToday = NONE;
            return lost;
        }
    }

    /** A row gone through, as far as it may be. */
    private static final class Walk {
        final Kitchen behind = new Kitchen();
        int why;

        /** How many days go well; on those of the bits there are guests. */
        int go(Rules r, Kitchen from, int[] row, int days, int guestBits) {
            behind.beginRow(from);
            why = 0;
            for (int i = 0; i < days; i++) {
                if (row[i] != NONE) {
                    boolean guests = (guestBits >> i & 1) != 0;
                    why = behind.whyNot(r, row[i], guests);
                    if (why != 0) {
                        return i;
                    }
                    behind.serve(r, row[i], guests);
                }
                behind.passNight(r);
            }
            return days;
        }

        /** How likely it is, in parts of 4^days, that each supper may be. */
        int bearing(Rules r, Kitchen from, int[] row, int days) {
            int sum = 0;
            for (int guestBits = 0; guestBits < 1 << days; guestBits++) {
                int weight = weightOf(r, from.date, days, guestBits);
                if (weight > 0 && go(r, from, row, days, guestBits) == days) {
                    sum += weight;
                }
            }
            return sum;
        }

        private static int weightOf(Rules r, int date, int days, int guestBits) {
            int weight = 1;
            for (int i = 0; i < days; i++) {
                int chance = r.chanceOfGuests(date + i);
                weight *= (guestBits >> i & 1) != 0 ? chance : 4 - chance;
            }
            return weight;
        }
    }

    /** All rows of some days that may be, looked at once, the first ahead. */
    private static final class Search {
        // Far above the steps of 9 suppers on 5 days.
        private static final int MOST_STEPS = 1000000;
        private static final int BEGIN = -1, ENDED = -2;
        // Above all sums of a row, so that a rank holds several of them.
        private static final long BASE = 100000;

        private final Kitchen[] steps = {
            new Kitchen(), new Kitchen(), new Kitchen(), new Kitchen(), new Kitchen(), new Kitchen() };
        private final int[] places = new int[PLAN];
        private final Walk walk = new Walk();

        int rows;
        private long bestRank;
        int rowsAsGood;
        int bestThrown;
        int bestPaid;
        int bestLiked;
        final int[] bestRow = new int[PLAN];
        private long fairestRank;
        int fairestFed;
        final int[] fairestRow = new int[PLAN];
        int surestWeight;
        final int[] surestRow = new int[PLAN];
        int rowsClosing;
        int suppersClosing;
        final int[] closingRow = new int[PLAN];

        /** For days from 1 to PLAN. */
        void lookAtRows(Rules r, Kitchen from, int days, boolean withGuests) {
            forget();
            steps[0].beginRow(from);
            places[0] = BEGIN;
            int depth = 0;
            for (int step = 0; step < MOST_STEPS && depth >= 0; step++) {
                int next = following(r, depth);
                if (next == ENDED) {
                    depth--;
                    continue;
                }
                places[depth] = next;
                takeDay(r, depth, next);
                if (depth + 1 < days) {
                    depth++;
                    places[depth] = BEGIN;
                    continue;
                }
                judge(r, from, days);
                if (withGuests) {
                    judgeSurest(walk.bearing(r, from, places, days));
                }
            }
        }

        private void forget() {
            rows = 0;
            surestWeight = -1;
            rowsClosing = 0;
            suppersClosing = 0;
        }

        private int following(Rules r, int depth) {
            Kitchen here = steps[depth];
            if (r.isOut(here.date)) {
                return places[depth] == BEGIN ? NONE : ENDED;
            }
            for (int s = places[depth] + 1; s < r.suppers; s++) {
                if (here.whyNot(r, s, false) == 0) {
                    return s;
                }
            }
            return ENDED;
        }

        private void takeDay(Rules r, int depth, int s) {
            Kitchen after = steps[depth + 1];
            after.copyFrom(steps[depth]);
            if (s != NONE) {
                after.serve(r, s, false);
            }
            after.passNight(r);
        }

        private void judge(Rules r, Kitchen from, int days) {
            Kitchen behind = steps[days];
            rows++;
            long rank = (behind.thrown * BASE + behind.paid) * BASE - behind.liked;
            judgeBest(rank, behind);
            judgeFairest(rank, r.timesFedLeast(places, days));
            if (r.isClosed(from, behind, places, days)) {
                addClosing(days);
            }
        }

        private void judgeBest(long rank, Kitchen behind) {
            if (rows == 1 || rank < bestRank) {
                bestRank = rank;
                rowsAsGood = 0;
                bestThrown = behind.thrown;
                bestPaid = behind.paid;
                bestLiked = behind.liked;
                System.arraycopy(places, 0, bestRow, 0, PLAN);
            }
            if (rank == bestRank) {
                rowsAsGood++;
            }
        }

        private void judgeFairest(long rank, int fedLeast) {
            boolean fairer = fedLeast > fairestFed || fedLeast == fairestFed && rank < fairestRank;
            if (rows == 1 || fairer) {
                fairestFed = fedLeast;
                fairestRank = rank;
                System.arraycopy(places, 0, fairestRow, 0, PLAN);
            }
        }

        private void judgeSurest(int weight) {
            if (weight > surestWeight) {
                surestWeight = weight;
                System.arraycopy(places, 0, surestRow, 0, PLAN);
            }
        }

        private void addClosing(int days) {
            if (rowsClosing == 0) {
                System.arraycopy(places, 0, closingRow, 0, PLAN);
            }
            rowsClosing++;
            for (int i = 0; i < days; i++) {
                if (places[i] != NONE) {
                    suppersClosing |= 1 << places[i];
                }
            }
        }
    }

    /** The tape, and how it is read: token by token, into rules of their own, up to the first fault. */
    private static final class Reader {
        private static final int END = 0, NAME = 1, NUMBER = 2, POINT = 3;
        private static final int NO_TOKEN = 1, NOT_HERE = 2, NOT_AS_TOLD = 3, TWICE = 4, TOO_MANY = 5, NOT_TOLD = 6;
        private static final int UNUSED = -1;

        final byte[] tape = new byte[TAPE];
        int length;
        final Rules told = new Rules();
        int faultFound;
        int faultPlace;
        private int at;
        private int token;
        private int start;
        private int number;
        private boolean againTold;
        private boolean shopTold;
        // Where each thing is first used: it may be told behind that.
        private final int[] firstUse = new int[THINGS];

        /** How many lines there are, up to a fault. */
        int readTape() {
            begin();
            int lines = 0;
            for (int i = 0; i <= TAPE; i++) {
                if (!readToken() || token == END || !readLine()) {
                    break;
                }
                lines++;
            }
            if (faultFound == 0) {
                findThingNotTold();
            }
            return lines;
        }

        private void begin() {
            at = 0;
            faultFound = 0;
            againTold = false;
            shopTold = false;
            for (int t = 0; t < THINGS; t++) {
                firstUse[t] = UNUSED;
            }
            told.reset();
        }

        private boolean refuse(int fault, int place) {
            faultFound = fault;
            faultPlace = place;
            return false;
        }

        private void findThingNotTold() {
            int place = UNUSED;
            for (int t = told.things; t < THINGS; t++) {
                if (firstUse[t] != UNUSED && (place == UNUSED || firstUse[t] < place)) {
                    place = firstUse[t];
                }
            }
            if (place != UNUSED) {
                refuse(NOT_TOLD, place);
            }
        }

        private boolean readToken() {
            while (at < length && tape[at] == ' ') {
                at++;
            }
            start = at;
            number = 0;
            if (at >= length) {
                token = END;
            } else if (tape[at] == ';') {
                token = POINT;
                at++;
            } else if (isLetter(tape[at])) {
                token = NAME;
                while (at < length && isLetter(tape[at])) {
                    at++;
                }
            } else {
                token = NUMBER;
                while (at < length && isFigure(tape[at])) {
                    number = number * 10 + tape[at] - '0';
                    at++;
                }
            }
            boolean isToken = token != NUMBER || at - start == 1 || at - start == 2;
            return isToken || refuse(NO_TOKEN, start);
        }

        private static boolean isLetter(int sign) {
            return sign >= 'a' && sign <= 'z';
        }

        private static boolean isFigure(int sign) {
            return sign >= '0' && sign <= '9';
        }

        private boolean isName(String word) {
            if (token != NAME || at - start != word.length()) {
                return false;
            }
            for (int i = 0; i < word.length(); i++) {
                if (tape[start + i] != word.charAt(i)) {
                    return false;
                }
            }
            return true;
        }

        private boolean readName() {
            return readToken() && (token == NAME || refuse(NOT_HERE, start));
        }

        private boolean readNumber(int least, int most) {
            if (!readToken()) {
                return false;
            }
            if (token != NUMBER) {
                return refuse(NOT_HERE, start);
            }
            return number >= least && number <= most || refuse(NOT_AS_TOLD, start);
        }

        private boolean readPoint() {
            return readToken() && isPoint();
        }

        private boolean isPoint() {
            return token == POINT || refuse(NOT_HERE, start);
        }

        private boolean readLine() {
            if (isName("thing")) {
                return readThing();
            }
            if (isName("first")) {
                return readSupper(FIRST);
            }
            if (isName("second")) {
                return readSupper(SECOND);
            }
            if (isName("feast")) {
                return readSupper(FEAST);
            }
            if (isName("any")) {
                return readSupper(ANY);
            }
            if (isName("again")) {
                return readAgain();
            }
            if (isName("shop")) {
                return readShop();
            }
            if (isName("out")) {
                return readOut();
            }
            return isName("guest") ? readGuest() : refuse(NOT_HERE, start);
        }

        private boolean readThing() {
            int t = told.things;
            if (t >= THINGS) {
                return refuse(TOO_MANY, start);
            }
            told.things = t + 1;
            if (!readNumber(1, AGES)) {
                return false;
            }
            told.keeps[t] = number;
            if (!readNumber(1, 4)) {
                return false;
            }
            told.pack[t] = number;
            if (!readNumber(0, DEAREST)) {
                return false;
            }
            told.price[t] = number;
            return readPoint();
        }

        private boolean readSupper(int kind) {
            int s = told.suppers;
            if (s >= SUPPERS) {
                return refuse(TOO_MANY, start);
            }
            told.suppers = s + 1;
            told.kind[s] = kind;
            if (!(kind == ANY ? readSoup(s) : readPortions(told.wants, s, true))) {
                return false;
            }
            if (isName("leaves") && !readPortions(told.leaves, s, false)) {
                return false;
            }
            if (isName("like") && !readLike(s)) {
                return false;
            }
            if (isName("wont") && !readWont(s)) {
                return false;
            }
            return isPoint();
        }

        /** Reads what a soup is made of, and the token behind it. */
        private boolean readSoup(int s) {
            if (!readNumber(1, 9)) {
                return false;
            }
            told.soupUnits[s] = number;
            if (!readName()) {
                return false;
            }
            told.soupThings[s] = lettersOnce('a', THINGS);
            if (told.soupThings[s] == 0) {
                return refuse(NOT_AS_TOLD, start);
            }
            for (int t = 0; t < THINGS; t++) {
                if (told.isInSoup(s, t)) {
                    noteUse(t);
                }
            }
            return readToken();
        }

        /** The letters of the name as bits, or 0 if it has another one or one twice. */
        private int lettersOnce(char from, int many) {
            int bits = 0;
            for (int i = start; i < at; i++) {
                int bit = tape[i] - from;
                if (bit < 0 || bit >= many || (bits >> bit & 1) != 0) {
                    return 0;
                }
                bits |= 1 << bit;
            }
            return bits;
        }

        private void noteUse(int t) {
            if (firstUse[t] == UNUSED) {
                firstUse[t] = start;
            }
        }

        /** Reads things and their units, and the token behind them; "leaves" is one of those behind wants alone. */
        private boolean readPortions(int[] into, int s, boolean leavesMayFollow) {
            for (int i = 0; i <= THINGS; i++) {
                if (!readToken()) {
                    return false;
                }
                if (token != NAME || isName("like") || isName("wont") || leavesMayFollow && isName("leaves")) {
                    return true;
                }
                int t = tape[start] - 'a';
                if (at - start != 1 || t < 0 || t >= THINGS) {
                    return refuse(NOT_AS_TOLD, start);
                }
                if (into[s * THINGS + t] != 0) {
                    return refuse(TWICE, start);
                }
                noteUse(t);
                if (!readNumber(1, 3)) {
                    return false;
                }
                into[s * THINGS + t] = number;
            }
            // Not reached: a seventh one would be there for the second time.
            return false;
        }

        private boolean readLike(int s) {
            if (!readNumber(0, 9)) {
                return false;
            }
            told.likes[s] = number;
            return readToken();
        }

        private boolean readWont(int s) {
            if (!readName()) {
                return false;
            }
            told.wont[s] = lettersOnce('p', PEOPLE);
            if (told.wont[s] == 0) {
                return refuse(NOT_AS_TOLD, start);
            }
            return readToken();
        }

        private boolean readAgain() {
            if (againTold) {
                return refuse(TWICE, start);
            }
            againTold = true;
            if (!readNumber(0, 7)) {
                return false;
            }
            told.daysBetween = number;
            return readPoint();
        }

        private boolean readShop() {
            if (shopTold) {
                return refuse(TWICE, start);
            }
            shopTold = true;
            told.shops = 0;
            int least = 0;
            for (int i = 0; i <= WEEK; i++) {
                if (!readToken()) {
                    return false;
                }
                if (token != NUMBER) {
                    return isPoint();
                }
                if (number < least || number >= WEEK) {
                    return refuse(NOT_AS_TOLD, start);
                }
                told.shops |= 1 << number;
                least = number + 1;
            }
            // Not reached: an eighth day can't be above the one ahead.
            return false;
        }

        private boolean readOut() {
            if (!readNumber(0, WEEK - 1)) {
                return false;
            }
            if (told.isOut(number)) {
                return refuse(TWICE, start);
            }
            told.outs |= 1 << number;
            return readPoint();
        }

        private boolean readGuest() {
            if (!readNumber(0, WEEK - 1)) {
                return false;
            }
            int day = number;
            if (told.chances[day] != 0) {
                return refuse(TWICE, start);
            }
            if (!readNumber(1, 4)) {
                return false;
            }
            told.chances[day] = number;
            return readPoint();
        }
    }

    /** Rows of cells, each as wide as its lane. */
    private static final class Sheets {
        private final int[] laneOf = new int[SHEETS];
        final int[] cellCount = new int[SHEETS];
        private final int[] cells = new int[SHEETS * CELLS];

        Sheets() {
            for (int k = 0; k < SHEETS; k++) {
                laneOf[k] = NONE;
            }
        }

        boolean isNothing(int k) {
            return laneOf[k] == NONE;
        }

        void begin(int k, int lane, int n) {
            laneOf[k] = lane;
            cellCount[k] = n;
            for (int i = 0; i < CELLS; i++) {
                cells[k * CELLS + i] = 0;
            }
        }

        void setCell(int k, int i, int v) {
            cells[k * CELLS + i] = laneOf[k] == 0 ? (byte) v : laneOf[k] == 1 ? (short) v : v;
        }

        int cellAt(int k, int i) {
            return cells[k * CELLS + i];
        }

        int faultAsOf(int k, int lane) {
            if (isNothing(k)) {
                return NULL;
            }
            return laneOf[k] == lane ? 0 : CAST;
        }

        boolean isLotWhole(int k, long from) {
            return from >= 0 && from + 2 < cellCount[k];
        }
    }
}
