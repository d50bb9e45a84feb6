import java.util.ArrayList;
import java.util.Arrays;
import java.util.HashSet;
import java.util.List;
import java.util.Set;
import java.util.regex.Matcher;
import java.util.regex.Pattern;

/** The same promises once more, as slowly and as plainly as can be: units are single things, rows are all tried. */
public final class Plain {
    static final int BAD = -1, STATE = -2, FULL = -3, NONE = -4;

    static final class Dish {
        String kind;
        int like;
        String wont = "";
        int units;
        String of = "";
        int[] wants = new int[6];
        int[] leaves = new int[6];
    }

    static final class Book {
        List<int[]> things = new ArrayList<>();
        List<Dish> dishes = new ArrayList<>();
        int again;
        Set<Integer> shops = new HashSet<>(List.of(0, 1, 2, 3, 4, 5, 6));
        Set<Integer> outs = new HashSet<>();
        int[] guests = new int[7];
    }

    static final class Unit {
        final int thing;
        final int age;

        Unit(int thing, int age) {
            this.thing = thing;
            this.age = age;
        }
    }

    static final class Home {
        List<Unit> larder = new ArrayList<>();
        int[] last = new int[9];
        int day, today = NONE, paid, thrown, liked;

        Home() {
            Arrays.fill(last, NONE);
        }

        Home same() {
            Home h = new Home();
            h.larder.addAll(larder);
            h.last = last.clone();
            h.day = day;
            h.today = today;
            h.paid = paid;
            h.thrown = thrown;
            h.liked = liked;
            return h;
        }

        int many(int t, int age) {
            int n = 0;
            for (Unit u : larder) {
                n += u.thing == t && u.age == age ? 1 : 0;
            }
            return n;
        }

        String picture() {
            StringBuilder b = new StringBuilder();
            for (int t = 0; t < 6; t++) {
                for (int age = 0; age < 4; age++) {
                    b.append(many(t, age)).append(' ');
                }
            }
            return b.toString();
        }
    }

    /** What a supper would do today. */
    static final class Meal {
        int why;
        int cost;
        int[] lack = new int[6];
        int[] packs = new int[6];
        int[] took = new int[6];
        Home after;
    }

    static final class Way {
        int first = -1;
        int why;
        Home end;
        int[] fed = new int[4];
    }

    static final class Refused extends Exception {
        final int fault, place;

        Refused(int fault, int place) {
            this.fault = fault;
            this.place = place;
        }
    }

    private Book book = new Book();
    private Home home = new Home();
    private final Home[] images = new Home[2];
    private final List<Integer> row = new ArrayList<>();
    private final StringBuilder tape = new StringBuilder();
    private int fault;
    private final int[][] cells = new int[4][];
    private final int[] lanes = new int[4];
    private int torn;

    // ---- the text

    public int feed(long v) {
        if (tape.length() + 8 > 400) {
            return FULL;
        }
        for (int i = 7; i >= 0; i--) {
            tape.append((char) (v >> 8 * i & 255));
        }
        return tape.length();
    }

    public int end(int n) {
        if (n < 0 || n > tape.length()) {
            return BAD;
        }
        int had = tape.length();
        tape.setLength(n);
        return had;
    }

    private final List<String> words = new ArrayList<>();
    private final List<Integer> places = new ArrayList<>();
    private int w;
    private List<int[]> uses;

    private void cut(String text) {
        words.clear();
        places.clear();
        Matcher m = Pattern.compile("[a-z]+|[0-9]+|;|[^ ]").matcher(text);
        while (m.find()) {
            words.add(m.group());
            places.add(m.start());
        }
        words.add("");
        places.add(text.length());
        w = -1;
    }

    private String go() throws Refused {
        w++;
        String word = words.get(w);
        if (!word.matches("|[a-z]+|[0-9]{1,2}|;")) {
            throw new Refused(1, places.get(w));
        }
        return word;
    }

    private Refused no(int f) {
        return new Refused(f, places.get(w));
    }

    private int number(int low, int high) throws Refused {
        String word = go();
        if (!word.matches("[0-9]+")) {
            throw no(2);
        }
        int v = Integer.parseInt(word);
        if (v < low || v > high) {
            throw no(3);
        }
        return v;
    }

    private String letters(String from) throws Refused {
        String word = go();
        if (!word.matches("[a-z]+")) {
            throw no(2);
        }
        Set<Character> seen = new HashSet<>();
        for (char c : word.toCharArray()) {
            if (from.indexOf(c) < 0 || !seen.add(c)) {
                throw no(3);
            }
        }
        return word;
    }

    private String portions(int[] into, List<String> behind) throws Refused {
        while (true) {
            String word = go();
            if (!word.matches("[a-z]+") || behind.contains(word)) {
                return word;
            }
            if (!word.matches("[a-f]")) {
                throw no(3);
            }
            int t = word.charAt(0) - 'a';
            if (into[t] > 0) {
                throw no(4);
            }
            uses.add(new int[] { t, places.get(w) });
            into[t] = number(1, 3);
        }
    }

    private void point(String word) throws Refused {
        if (!word.equals(";")) {
            throw no(2);
        }
    }

    private Dish dish(String kind) throws Refused {
        Dish d = new Dish();
        d.kind = kind;
        String word;
        if (kind.equals("any")) {
            d.units = number(1, 9);
            d.of = letters("abcdef");
            for (char c : d.of.toCharArray()) {
                uses.add(new int[] { c - 'a', places.get(w) });
            }
            word = go();
        } else {
            word = portions(d.wants, List.of("leaves", "like", "wont"));
        }
        if (word.equals("leaves")) {
            word = portions(d.leaves, List.of("like", "wont"));
        }
        if (word.equals("like")) {
            d.like = number(0, 9);
            word = go();
        }
        if (word.equals("wont")) {
            d.wont = letters("pqrs");
            word = go();
        }
        point(word);
        return d;
    }

    private int lines(Book b) throws Refused {
        boolean again = false, shop = false;
        for (int lines = 0;; lines++) {
            String word = go();
            switch (word) {
                case "":
                    for (int[] use : uses) {
                        if (use[0] >= b.things.size()) {
                            throw new Refused(6, use[1]);
                        }
                    }
                    return lines;
                case "thing":
                    if (b.things.size() == 6) {
                        throw no(5);
                    }
                    b.things.add(new int[] { number(1, 4), number(1, 4), number(0, 60) });
                    point(go());
                    break;
                case "first": case "second": case "feast": case "any":
                    if (b.dishes.size() == 8) {
                        throw no(5);
                    }
                    b.dishes.add(dish(word));
                    break;
                case "again":
                    if (again) {
                        throw no(4);
                    }
                    again = true;
                    b.again = number(0, 7);
                    point(go());
                    break;
                case "shop":
                    if (shop) {
                        throw no(4);
                    }
                    shop = true;
                    b.shops.clear();
                    int above = -1;
                    for (word = go(); word.matches("[0-9]+"); word = go()) {
                        int v = Integer.parseInt(word);
                        if (v <= above || v > 6) {
                            throw no(3);
                        }
                        above = v;
                        b.shops.add(v);
                    }
                    point(word);
                    break;
                case "out":
                    if (!b.outs.add(number(0, 6))) {
                        throw no(4);
                    }
                    point(go());
                    break;
                case "guest":
                    int day = number(0, 6);
                    if (b.guests[day] > 0) {
                        throw no(4);
                    }
                    b.guests[day] = number(1, 4);
                    point(go());
                    break;
                default:
                    throw no(2);
            }
        }
    }

    public int text() {
        cut(tape.toString());
        tape.setLength(0);
        uses = new ArrayList<>();
        Book b = new Book();
        try {
            int lines = lines(b);
            fault = 0;
            book = b;
            home = new Home();
            Arrays.fill(images, null);
            row.clear();
            return lines;
        } catch (Refused r) {
            fault = r.fault;
            return -10 - r.place;
        }
    }

    public int fault() {
        return fault;
    }

    private boolean noThing(int t) {
        return t < 0 || t >= book.things.size();
    }

    private boolean noSupper(int s) {
        return s < 0 || s >= book.dishes.size();
    }

    public int thing(int t, int what) {
        return noThing(t) || what < 0 || what > 2 ? BAD : book.things.get(t)[what];
    }

    private static int bits(String word, char from) {
        int bits = 0;
        for (char c : word.toCharArray()) {
            bits += 1 << c - from;
        }
        return bits;
    }

    public int supper(int s, int what) {
        if (noSupper(s)) {
            return BAD;
        }
        Dish d = book.dishes.get(s);
        for (int t = 0; t < book.things.size(); t++) {
            if (what == 10 + t) {
                return d.wants[t];
            }
            if (what == 20 + t) {
                return d.leaves[t];
            }
        }
        switch (what) {
            case 0: return List.of("first", "second", "feast", "any").indexOf(d.kind);
            case 1: return d.like;
            case 2: return bits(d.wont, 'p');
            case 3: return d.units;
            case 4:
                String of = d.of;
                for (int t = 0; t < 6; t++) {
                    of += d.wants[t] > 0 ? String.valueOf((char) ('a' + t)) : "";
                }
                return bits(of, 'a');
            default: return BAD;
        }
    }

    public int rule(int what) {
        int bits = 0;
        if (what == 1 || what == 2) {
            for (int d : what == 1 ? book.shops : book.outs) {
                bits += 1 << d;
            }
            return bits;
        }
        return what == 0 ? book.again : what >= 10 && what <= 16 ? book.guests[what - 10] : BAD;
    }

    // ---- the larder

    private static void setUnits(Home h, int t, int age, int v) {
        h.larder.removeIf(u -> u.thing == t && u.age == age);
        for (int i = 0; i < v; i++) {
            h.larder.add(new Unit(t, age));
        }
    }

    private boolean badPut(int t, int age, int v) {
        return noThing(t) || age < 0 || age >= book.things.get(t)[0] || v < 0 || v > 9;
    }

    public int put(int t, int age, int v) {
        if (badPut(t, age, v)) {
            return BAD;
        }
        int was = home.many(t, age);
        setUnits(home, t, age, v);
        return was;
    }

    public int has(int t, int age) {
        return noThing(t) || age < 0 || age > 3 ? BAD : home.many(t, age);
    }

    private static Meal meal(Book b, Home h, int s, boolean guests) {
        Dish d = b.dishes.get(s);
        Meal m = new Meal();
        m.after = h.same();
        boolean soup = d.kind.equals("any");
        boolean buys = d.kind.equals("first") || d.kind.equals("feast");
        int[] open = d.wants.clone();
        if (guests && !d.kind.equals("feast")) {
            for (int t = 0; t < 6; t++) {
                open[t] += d.wants[t] > 0 ? 1 : 0;
            }
        }
        int openSoup = soup ? d.units + (guests ? 1 : 0) : 0;
        for (int age = 3; age >= 0; age--) {
            for (int t = 0; t < 6; t++) {
                boolean inSoup = d.of.indexOf('a' + t) >= 0;
                for (Unit u : h.larder) {
                    if (u.thing != t || u.age != age || !(inSoup ? openSoup > 0 : open[t] > 0)) {
                        continue;
                    }
                    m.took[t]++;
                    m.after.larder.remove(u);
                    if (inSoup) {
                        openSoup--;
                    } else {
                        open[t]--;
                    }
                }
            }
        }
        boolean missing = openSoup > 0;
        for (int t = 0; t < b.things.size(); t++) {
            m.lack[t] = d.of.indexOf('a' + t) >= 0 ? openSoup : open[t];
            boolean canBuy = buys && b.things.get(t)[2] > 0 && b.shops.contains(h.day % 7);
            int bought = 0;
            while (canBuy && bought < m.lack[t]) {
                m.packs[t]++;
                bought += b.things.get(t)[1];
            }
            missing |= bought < m.lack[t];
            m.cost += m.packs[t] * b.things.get(t)[2];
            for (int i = m.lack[t]; i < bought; i++) {
                m.after.larder.add(new Unit(t, 0));
            }
            for (int i = 0; i < d.leaves[t]; i++) {
                m.after.larder.add(new Unit(t, 0));
            }
        }
        boolean soon = h.last[s] != NONE && h.day - h.last[s] < b.again;
        m.why = b.outs.contains(h.day % 7) ? 1 : soon ? 2 : missing ? 3 : 0;
        m.after.last[s] = h.day;
        m.after.today = s;
        m.after.paid += m.cost;
        m.after.liked += d.like;
        return m;
    }

    public int may(int s, boolean guests) {
        return noSupper(s) ? BAD : meal(book, home, s, guests).why;
    }

    public int lacks(int s, boolean guests, int t, int what) {
        if (noSupper(s) || noThing(t) || what < 0 || what > 2) {
            return BAD;
        }
        Meal m = meal(book, home, s, guests);
        return what == 0 ? m.lack[t] : what == 1 ? m.packs[t] : m.took[t];
    }

    public int eat(int s, boolean guests) {
        if (noSupper(s)) {
            return BAD;
        }
        Meal m = meal(book, home, s, guests);
        if (m.why != 0 || home.today != NONE) {
            return STATE;
        }
        home = m.after;
        return m.cost;
    }

    private static int night(Book b, Home h) {
        List<Unit> older = new ArrayList<>();
        int lost = 0;
        for (Unit u : h.larder) {
            if (u.age + 1 == b.things.get(u.thing)[0]) {
                lost++;
            } else {
                older.add(new Unit(u.thing, u.age + 1));
            }
        }
        h.larder = older;
        h.day++;
        h.today = NONE;
        h.thrown += lost;
        return lost;
    }

    public int night() {
        return night(book, home);
    }

    public int now(int what) {
        int[] all = { home.day, home.today, home.paid, home.thrown, home.liked, home.larder.size() };
        return what < 0 || what > 5 ? BAD : all[what];
    }

    public int last(int s) {
        return noSupper(s) ? BAD : home.last[s];
    }

    public int keep(int i) {
        if (i != 0 && i != 1) {
            return BAD;
        }
        int was = images[i] == null ? 0 : 1;
        images[i] = home.same();
        return was;
    }

    public int back(int i) {
        if (i != 0 && i != 1) {
            return BAD;
        }
        if (images[i] == null) {
            return STATE;
        }
        home = images[i].same();
        return home.day;
    }

    // ---- the row

    public int day(int s) {
        if (s != NONE && noSupper(s)) {
            return BAD;
        }
        if (row.size() == 7) {
            return FULL;
        }
        row.add(s);
        return row.size();
    }

    public int clear() {
        int had = row.size();
        row.clear();
        return had;
    }

    private Way play(Book b, List<Integer> suppers, int guestBits) {
        Way way = new Way();
        Home h = home.same();
        h.paid = h.thrown = h.liked = 0;
        for (int i = 0; i < suppers.size(); i++) {
            int s = suppers.get(i);
            if (s != NONE) {
                Meal m = meal(b, h, s, (guestBits >> i) % 2 == 1);
                if (m.why != 0) {
                    way.first = i;
                    way.why = m.why;
                    break;
                }
                h = m.after;
                for (int p = 0; p < 4; p++) {
                    way.fed[p] += b.dishes.get(s).wont.indexOf('p' + p) < 0 ? 1 : 0;
                }
            }
            night(b, h);
        }
        way.end = h;
        return way;
    }

    private boolean closed(Book b, List<Integer> suppers, Way way) {
        int n = suppers.size();
        if (way.first >= 0 || n < 1 || n > 5 || way.end.thrown > 0 || !way.end.picture().equals(home.picture())) {
            return false;
        }
        for (int i = 0; i < n; i++) {
            int s = suppers.get(i);
            if (s == NONE) {
                if (!b.outs.contains((home.day + i) % 7)) {
                    return false;
                }
                continue;
            }
            int on = 1;
            while (suppers.get((i + on) % n) != s) {
                on++;
            }
            if (on < b.again) {
                return false;
            }
        }
        return true;
    }

    public int row(int what) {
        Way way = play(book, row, 0);
        if (what >= 10 && what <= 13) {
            return way.fed[what - 10];
        }
        switch (what) {
            case 0: return way.first < 0 ? NONE : way.first;
            case 1: return way.why;
            case 2: return way.end.paid;
            case 3: return way.end.thrown;
            case 4: return way.end.liked;
            case 5: return closed(book, row, way) ? 1 : 0;
            default: return BAD;
        }
    }

    private int[] likely(Book b, List<Integer> suppers) {
        int up = 0, down = 1;
        for (int i = 0; i < suppers.size(); i++) {
            down *= 4;
        }
        for (int draw = 0; draw < down; draw++) {
            int bits = 0;
            for (int i = 0; i < suppers.size(); i++) {
                int of4 = draw >> 2 * i & 3;
                bits |= of4 < b.guests[(home.day + i) % 7] ? 1 << i : 0;
            }
            up += play(b, suppers, bits).first < 0 ? 1 : 0;
        }
        int by = down;
        while (up % by != 0 || down % by != 0) {
            by--;
        }
        return new int[] { up / by, down / by };
    }

    public int bears(int what) {
        return what != 0 && what != 1 ? BAD : likely(book, row)[what];
    }

    // ---- the best

    private void addRows(Book b, int n, List<Integer> begun, List<List<Integer>> all) {
        if (begun.size() == n) {
            if (play(b, begun, 0).first < 0) {
                all.add(new ArrayList<>(begun));
            }
            return;
        }
        boolean out = b.outs.contains((home.day + begun.size()) % 7);
        for (int s = 0; s < (out ? 1 : b.dishes.size()); s++) {
            begun.add(out ? NONE : s);
            addRows(b, n, begun, all);
            begun.remove(begun.size() - 1);
        }
    }

    private List<List<Integer>> rows(Book b, int n) {
        List<List<Integer>> all = new ArrayList<>();
        addRows(b, n, new ArrayList<>(), all);
        return all;
    }

    private static int compare(int[] a, int[] b) {
        return Arrays.compare(a, b);
    }

    private int[] key(Book b, List<Integer> r, boolean fair) {
        Way way = play(b, r, 0);
        int least = Arrays.stream(way.fed).min().getAsInt();
        return new int[] { fair ? -least : 0, way.end.thrown, way.end.paid, -way.end.liked };
    }

    private List<Integer> choose(Book b, List<List<Integer>> rows, boolean fair) {
        List<Integer> chosen = null;
        for (List<Integer> r : rows) {
            if (chosen == null || compare(key(b, r, fair), key(b, chosen, fair)) < 0) {
                chosen = r;
            }
        }
        return chosen;
    }

    public int best(int n, int what) {
        if (n < 1 || n > 5 || !(what >= 0 && what <= 4) && !(what >= 10 && what < 10 + n)) {
            return BAD;
        }
        List<List<Integer>> rows = rows(book, n);
        if (what == 4) {
            return rows.size();
        }
        List<Integer> chosen = choose(book, rows, false);
        if (chosen == null) {
            return NONE;
        }
        int[] key = key(book, chosen, false);
        if (what == 3) {
            return (int) rows.stream().filter(r -> compare(key(book, r, false), key) == 0).count();
        }
        return what >= 10 ? chosen.get(what - 10) : what == 2 ? -key[3] : key[what + 1];
    }

    public int fairest(int n, int what) {
        if (n < 1 || n > 5 || what != 0 && !(what >= 10 && what < 10 + n)) {
            return BAD;
        }
        List<Integer> chosen = choose(book, rows(book, n), true);
        if (chosen == null) {
            return NONE;
        }
        return what >= 10 ? chosen.get(what - 10) : -key(book, chosen, true)[0];
    }

    public int surest(int n, int what) {
        if (n < 1 || n > 3 || what != 0 && what != 1 && !(what >= 10 && what < 10 + n)) {
            return BAD;
        }
        List<Integer> chosen = null;
        int[] most = { -1, 1 };
        for (List<Integer> r : rows(book, n)) {
            int[] now = likely(book, r);
            if (now[0] * most[1] > most[0] * now[1]) {
                most = now;
                chosen = r;
            }
        }
        if (chosen == null) {
            return NONE;
        }
        return what >= 10 ? chosen.get(what - 10) : most[what];
    }

    private List<List<Integer>> closing(Book b, int n) {
        List<List<Integer>> all = rows(b, n);
        all.removeIf(r -> !closed(b, r, play(b, r, 0)));
        return all;
    }

    public int closes(int n, int what) {
        if (n < 1 || n > 5 || !(what >= 0 && what <= 2) && !(what >= 10 && what < 10 + n)) {
            return BAD;
        }
        List<List<Integer>> all = closing(book, n);
        int in = 0, none = 0;
        for (int s = 0; s < book.dishes.size(); s++) {
            int supper = s;
            if (all.stream().anyMatch(r -> r.contains(supper))) {
                in += 1 << s;
            } else {
                none += 1 << s;
            }
        }
        if (what >= 10) {
            return all.isEmpty() ? NONE : all.get(0).get(what - 10);
        }
        return what == 0 ? all.size() : what == 1 ? in : none;
    }

    public int shortest() {
        for (int n = 1; n <= 5; n++) {
            if (!closing(book, n).isEmpty()) {
                return n;
            }
        }
        return NONE;
    }

    private Book changed(int t, int what, int v) {
        Book b = new Book();
        for (int[] thing : book.things) {
            b.things.add(thing.clone());
        }
        b.dishes.addAll(book.dishes);
        b.again = book.again;
        b.shops = book.shops;
        b.outs = book.outs;
        b.guests = book.guests;
        if (what >= 0) {
            b.things.get(t)[what] = v;
        } else {
            Dish d = new Dish();
            d.kind = "second";
            d.wants[t] = 1;
            b.dishes.add(d);
        }
        return b;
    }

    public int small(int t, int n) {
        return noThing(t) || n < 1 || n > 4 ? BAD : closing(changed(t, -1, 0), n).size();
    }

    public int dish(int n) {
        if (n < 1 || n > 4) {
            return BAD;
        }
        int chosen = NONE;
        for (int t = book.things.size() - 1; t >= 0; t--) {
            if (chosen == NONE || small(t, n) >= small(chosen, n)) {
                chosen = t;
            }
        }
        return chosen;
    }

    public int cheap(int t, int v, int n) {
        if (noThing(t) || v < 0 || v > 60 || n < 1 || n > 5) {
            return BAD;
        }
        Book b = changed(t, 2, v);
        List<Integer> chosen = choose(b, rows(b, n), false);
        return chosen == null ? NONE : key(b, chosen, false)[2];
    }

    public int cold(int t, int n) {
        if (noThing(t) || n < 1 || n > 5) {
            return BAD;
        }
        int keeps = book.things.get(t)[0];
        Book b = changed(t, 0, keeps == 4 ? 4 : keeps + 1);
        List<Integer> chosen = choose(b, rows(b, n), false);
        return chosen == null ? NONE : key(b, chosen, false)[1];
    }

    // ---- sheets

    private static boolean outOf(int v, int high) {
        return v < 0 || v > high;
    }

    public int sheet(int k, int lane, int n) {
        if (outOf(k, 3) || outOf(lane, 2) || n > 40) {
            return BAD;
        }
        if (n < 0) {
            return -14;
        }
        cells[k] = new int[n];
        lanes[k] = lane;
        return 1;
    }

    public int lay(int k, int i, int v) {
        if (outOf(k, 3)) {
            return BAD;
        }
        if (cells[k] == null) {
            return -11;
        }
        if (outOf(i, cells[k].length - 1)) {
            return -12;
        }
        int unused = 32 - (8 << lanes[k]);
        cells[k][i] = v << unused >> unused;
        return 1;
    }

    public int read(int k, int lane, int f, int n) {
        if (outOf(k, 3) || outOf(lane, 2) || outOf(n, 12)) {
            return BAD;
        }
        if (n == 0) {
            torn = 0;
            return 0;
        }
        if (cells[k] == null || lanes[k] != lane) {
            torn = cells[k] == null ? 1 : 3;
            return 0;
        }
        List<int[]> lots = new ArrayList<>();
        int found = 0;
        for (int i = 0; i < n && found == 0; i++) {
            int[] lot = new int[3];
            for (int j = 0; j < 3; j++) {
                try {
                    lot[j] = cells[k][Math.addExact(f, 3 * i + j)];
                } catch (IndexOutOfBoundsException | ArithmeticException e) {
                    found = 2;
                }
            }
            if (found == 0) {
                if (badPut(lot[0], lot[1], lot[2])) {
                    return -20 - i;
                }
                lots.add(lot);
            }
        }
        for (int[] lot : lots) {
            put(lot[0], lot[1], lot[2]);
        }
        torn = found;
        return lots.size();
    }

    public int torn() {
        return torn;
    }

    public int count(int what) {
        switch (what) {
            case 0: return book.things.size();
            case 1: return book.dishes.size();
            case 2: return row.size();
            case 3: return (images[0] == null ? 0 : 1) + (images[1] == null ? 0 : 1);
            case 4: return tape.length();
            case 5: return cells[0] == null ? NONE : cells[0].length;
            default: return BAD;
        }
    }
}
