import java.util.ArrayDeque;
import java.util.ArrayList;
import java.util.Comparator;
import java.util.Deque;
import java.util.HashMap;
import java.util.HashSet;
import java.util.List;
import java.util.Map;
import java.util.Set;
import java.util.TreeSet;
import java.util.function.Predicate;
import java.util.function.ToIntFunction;

/** The document told a second time, as slowly and plainly as it goes, for ModelTest to compare with. */
final class Model {
    static final int NONE = -1;

    static final class P {
        int place, tall, girth, skin, water, burn, sold, bought;
        boolean parasol, hat;

        P copy() {
            P p = new P();
            p.place = place;
            p.tall = tall;
            p.girth = girth;
            p.skin = skin;
            p.water = water;
            p.burn = burn;
            p.sold = sold;
            p.bought = bought;
            p.parasol = parasol;
            p.hat = hat;
            return p;
        }
    }

    static final class Line {
        String act;
        Predicate<Map<String, Integer>> when;
    }

    /** What UNDO brings back, and THE IMAGE too. */
    static final class Moment {
        int state, day, now, fights, price = 5, rest;
        int[][] hours = new int[12][5];
        List<P> all = new ArrayList<>();
        Set<Set<Integer>> quarrels = new HashSet<>();
        List<int[]> book = new ArrayList<>();
        List<Line> rules = new ArrayList<>();
        Map<Integer, Integer> told = new HashMap<>();

        Moment copy() {
            Moment m = new Moment();
            m.state = state;
            m.day = day;
            m.now = now;
            m.fights = fights;
            m.price = price;
            m.rest = rest;
            for (int h = 0; h < 12; h++) {
                m.hours[h] = hours[h].clone();
            }
            for (P p : all) {
                m.all.add(p.copy());
            }
            m.quarrels.addAll(quarrels);
            m.book.addAll(book);
            m.rules = rules;
            m.told.putAll(told);
            return m;
        }
    }

    Moment m = new Moment();
    Moment image;
    Deque<Moment> past = new ArrayDeque<>();
    List<Integer> tape = new ArrayList<>();
    int fault, faultPlace = NONE;

    Model() {
        int[] suns = {2, 2, 3, 3, 4, 4, 4, 4, 5, 5, 6, 6};
        int[] altitudes = {0, 1, 2, 3, 4, 4, 4, 4, 3, 2, 1, 0};
        for (int h = 0; h < 12; h++) {
            m.hours[h] = new int[] {suns[h], altitudes[h], altitudes[h] + 1, 0, 0};
        }
    }

    static boolean in(int v, int least, int most) {
        return v >= least && v <= most;
    }

    boolean is(int p) {
        return in(p, 0, m.all.size() - 1);
    }

    P at(int place) {
        for (P p : m.all) {
            if (p.place == place) {
                return p;
            }
        }
        return null;
    }

    int draw(int of) {
        m.state = 1664525 * m.state + 1013904223;
        return (int) ((m.state & 0xffffffffL) / 256 % of);
    }

    static int far(int a, int b) {
        int dx = Math.abs(a % 5 - b % 5);
        int dy = Math.abs(a / 5 - b / 5);
        return dx > dy ? dx : dy;
    }

    /** The PLACE next to one by a WAY, or NONE. */
    static int next(int place, int way) {
        int w = Math.floorMod(way, 8);
        int x = place % 5;
        int y = place / 5;
        if (w == 1 || w == 2 || w == 3) {
            x++;
        }
        if (w == 5 || w == 6 || w == 7) {
            x--;
        }
        if (w == 7 || w == 0 || w == 1) {
            y--;
        }
        if (w == 3 || w == 4 || w == 5) {
            y++;
        }
        return in(x, 0, 4) && in(y, 0, 4) ? 5 * y + x : NONE;
    }

    Set<Integer> parasolShade(P p, int h, int road) {
        Set<Integer> set = new HashSet<>();
        int place = p.place;
        set.add(place);
        for (int i = 0; i < 4 - m.hours[h][1] && place != NONE; i++) {
            place = next(place, m.hours[h][0] + 4 - road);
            if (place != NONE) {
                set.add(place);
            }
        }
        return set;
    }

    Set<Integer> tallShade(P p, int h, int road) {
        Set<Integer> set = new HashSet<>();
        int way = m.hours[h][0] + 4 - road;
        int altitude = m.hours[h][1];
        if (p.tall >= 5 && (altitude <= 2 || altitude == 3 && p.girth == 3)) {
            int behind = next(p.place, way);
            if (behind != NONE) {
                set.add(behind);
                if (p.girth >= 2) {
                    set.add(next(behind, way + 2));
                    set.add(next(behind, way + 6));
                    set.remove(NONE);
                }
            }
        }
        return set;
    }

    boolean shades(P p, int place, int h, int road) {
        return tallShade(p, h, road).contains(place) || p.parasol && parasolShade(p, h, road).contains(place);
    }

    boolean shaded(P p, int h, int road) {
        if (p.hat || p.parasol) {
            return true;
        }
        for (P q : m.all) {
            if (q != p && shades(q, p.place, h, road)) {
                return true;
            }
        }
        return false;
    }

    boolean shaded(P p, int h) {
        return shaded(p, h, m.hours[h][3]);
    }

    int state(int v) {
        int was = m.state;
        m.state = v;
        return was;
    }

    boolean hour(int h, int what, int v) {
        int[] most = {7, 4, 9, 7, 10};
        if (!in(h, 0, 11) || !in(what, 0, 4) || !in(v, 0, most[what])) {
            return false;
        }
        m.hours[h][what] = v;
        past.clear();
        return true;
    }

    boolean set(int what, int v) {
        if (!in(what, 0, 1) || !in(v, 0, 99)) {
            return false;
        }
        if (what == 0) {
            m.price = v;
        } else {
            m.rest = v;
        }
        past.clear();
        return true;
    }

    int pilgrim(int place, int tall, int girth, int skin, int water) {
        if (!in(place, 0, 24) || at(place) != null || m.all.size() == 10 || !in(tall, 0, 9) || !in(girth, 1, 3)
            || !in(skin, 0, 9) || !in(water, 0, 9999)) {
            return NONE;
        }
        P p = new P();
        p.place = place;
        p.tall = tall;
        p.girth = girth;
        p.skin = skin;
        p.water = water;
        m.all.add(p);
        past.clear();
        return m.all.size() - 1;
    }

    boolean give(int n, int what, int v) {
        if (!is(n)) {
            return false;
        }
        P p = m.all.get(n);
        if (what == 0 && in(v, 0, 24) && (at(v) == null || at(v) == p)) {
            p.place = v;
        } else if (what == 1 && in(v, 0, 1)) {
            p.parasol = v == 1;
        } else if (what == 2 && in(v, 0, 1)) {
            p.hat = v == 1;
        } else if (what == 3 && in(v, 0, 9999)) {
            p.water = v;
        } else {
            return false;
        }
        past.clear();
        return true;
    }

    boolean quarrel(int a, int b, boolean does) {
        if (!is(a) || !is(b) || a == b) {
            return false;
        }
        if (does) {
            m.quarrels.add(Set.of(a, b));
        } else {
            m.quarrels.remove(Set.of(a, b));
        }
        past.clear();
        return true;
    }

    boolean foes(int a, int b) {
        return a != b && m.quarrels.contains(Set.of(a, b));
    }

    int feed(int a, int b, int c, int d, int e) {
        if (tape.size() > 380) {
            return NONE;
        }
        for (int v : new int[] {a, b, c, d, e}) {
            for (byte one : java.nio.ByteBuffer.allocate(4).putInt(v).array()) {
                tape.add(one & 255);
            }
        }
        return tape.size();
    }

    boolean end(int n) {
        if (!in(n, 0, tape.size())) {
            return false;
        }
        tape = new ArrayList<>(tape.subList(0, n));
        return true;
    }

    int text() {
        List<Integer> read = tape;
        tape = new ArrayList<>();
        fault = 0;
        faultPlace = NONE;
        try {
            m.rules = new Parser(read).lines();
            return m.rules.size();
        } catch (Fault f) {
            fault = f.number;
            faultPlace = f.place;
            return NONE;
        }
    }

    int fault(int what) {
        return what == 0 ? fault : what == 1 ? faultPlace : NONE;
    }

    static final class Fault extends RuntimeException {
        private static final long serialVersionUID = 1;
        final int number;
        final int place;

        Fault(int number, int place) {
            this.number = number;
            this.place = place;
        }
    }

    /** By descent through the grammar, as it stands in the document. */
    static final class Parser {
        static final List<String> KEYS = List.of("stay", "seek", "buy", "flee", "when", "or", "and", "not");
        static final List<String> UNITS = List.of("burn", "heat", "shaded", "water", "tall", "skin", "hour",
            "place", "bears", "pilgrim");
        final List<String> tokens = new ArrayList<>();
        final List<Integer> places = new ArrayList<>();
        int i;
        int open;

        Parser(List<Integer> bytes) {
            StringBuilder b = new StringBuilder();
            for (int one : bytes) {
                b.append((char) one);
            }
            java.util.regex.Matcher t = java.util.regex.Pattern.compile("[a-zA-Z]+|[0-9]+|[^ \n]").matcher(b);
            while (t.find()) {
                String s = t.group();
                boolean good = KEYS.contains(s) || UNITS.contains(s) || s.matches("[0-9]{1,4}")
                    || s.length() == 1 && ";+-*/()<=>".contains(s);
                tokens.add(good ? s : "?");
                places.add(t.start());
            }
            tokens.add("");
            places.add(bytes.size());
        }

        String token() {
            return tokens.get(i);
        }

        boolean isNumber() {
            return token().matches("[0-9]+");
        }

        boolean sees(String s) {
            return token().equals(s);
        }

        void need(boolean good, int number) {
            if (!good) {
                throw new Fault(number, places.get(i));
            }
        }

        List<Line> lines() {
            List<Line> lines = new ArrayList<>();
            while (!sees("")) {
                need(KEYS.indexOf(token()) >= 0 && KEYS.indexOf(token()) < 4, 1);
                need(lines.size() < 16, 3);
                Line line = new Line();
                line.act = token();
                i++;
                if (sees("when")) {
                    i++;
                    line.when = b();
                }
                need(sees(";"), 1);
                i++;
                lines.add(line);
            }
            return lines;
        }

        Predicate<Map<String, Integer>> b() {
            Predicate<Map<String, Integer>> left = a();
            while (sees("or")) {
                i++;
                left = left.or(a());
            }
            return left;
        }

        Predicate<Map<String, Integer>> a() {
            Predicate<Map<String, Integer>> left = c();
            while (sees("and")) {
                i++;
                left = left.and(c());
            }
            return left;
        }

        Predicate<Map<String, Integer>> c() {
            if (sees("not") || sees("(")) {
                need(open < 8, 3);
                open++;
                boolean not = sees("not");
                i++;
                Predicate<Map<String, Integer>> inside = not ? c().negate() : b();
                if (!not) {
                    need(sees(")"), 1);
                    i++;
                }
                open--;
                return inside;
            }
            ToIntFunction<Map<String, Integer>> left = e();
            String how = token();
            need(how.equals("<") || how.equals("=") || how.equals(">"), 1);
            i++;
            ToIntFunction<Map<String, Integer>> right = e();
            return who -> {
                int l = left.applyAsInt(who);
                int r = right.applyAsInt(who);
                return how.equals("<") ? l < r : how.equals("=") ? l == r : l > r;
            };
        }

        ToIntFunction<Map<String, Integer>> e() {
            ToIntFunction<Map<String, Integer>> left = t();
            while (sees("+") || sees("-")) {
                int sign = sees("+") ? 1 : -1;
                i++;
                ToIntFunction<Map<String, Integer>> l = left;
                ToIntFunction<Map<String, Integer>> r = t();
                left = who -> l.applyAsInt(who) + sign * r.applyAsInt(who);
            }
            return left;
        }

        ToIntFunction<Map<String, Integer>> t() {
            ToIntFunction<Map<String, Integer>> left = u();
            while (sees("*") || sees("/")) {
                boolean part = sees("/");
                i++;
                ToIntFunction<Map<String, Integer>> l = left;
                if (part) {
                    need(isNumber(), 1);
                    int by = Integer.parseInt(token());
                    need(by != 0, 2);
                    i++;
                    left = who -> l.applyAsInt(who) / by;
                } else {
                    ToIntFunction<Map<String, Integer>> r = u();
                    left = who -> l.applyAsInt(who) * r.applyAsInt(who);
                }
            }
            return left;
        }

        ToIntFunction<Map<String, Integer>> u() {
            String s = token();
            need(isNumber() || UNITS.contains(s), 1);
            boolean number = isNumber();
            i++;
            return number ? who -> Integer.parseInt(s) : who -> who.get(s);
        }
    }

    int hours(int n) {
        if (!in(n, 1, 12) || m.now + n > 12) {
            return NONE;
        }
        int sum = 0;
        for (int i = 0; i < n; i++) {
            past.push(m.copy());
            sum += oneHour();
        }
        return sum;
    }

    int oneHour() {
        int h = m.now;
        int heat = m.hours[h][2];
        if (m.hours[h][4] > 0 && draw(10) < m.hours[h][4]) {
            heat = 0;
        }
        for (int n = 0; n < m.all.size(); n++) {
            P p = m.all.get(n);
            Map<String, Integer> who = new HashMap<>();
            who.put("burn", p.burn);
            who.put("heat", heat);
            who.put("shaded", shaded(p, h) ? 1 : 0);
            who.put("water", p.water);
            who.put("tall", p.tall);
            who.put("skin", p.skin);
            who.put("hour", h);
            who.put("place", p.place);
            who.put("bears", p.parasol ? 1 : 0);
            who.put("pilgrim", n);
            String act = "stay";
            for (Line line : m.rules) {
                if (line.when == null || line.when.test(who)) {
                    act = line.act;
                    break;
                }
            }
            act(n, p, h, act);
        }
        int sum = 0;
        for (int n = 0; n < m.all.size(); n++) {
            P p = m.all.get(n);
            int burnt = shaded(p, h) ? 0 : heat * p.skin;
            p.burn += burnt;
            sum += burnt;
            if (burnt > 0 && m.book.size() < 200) {
                m.book.add(new int[] {n, m.day, h, burnt});
            }
        }
        for (Set<Integer> two : m.quarrels) {
            List<Integer> both = new ArrayList<>(two);
            if (far(m.all.get(both.get(0)).place, m.all.get(both.get(1)).place) <= 1) {
                m.fights++;
            }
        }
        m.now++;
        return sum;
    }

    void act(int n, P p, int h, String act) {
        if (act.equals("seek") && !shaded(p, h)) {
            goNearest(p, place -> {
                for (P q : m.all) {
                    if (q != p && shades(q, place, h, m.hours[h][3])) {
                        return true;
                    }
                }
                return false;
            });
        }
        if (act.equals("flee") && !awayFromFoes(n, p.place)) {
            goNearest(p, place -> awayFromFoes(n, place));
        }
        if (act.equals("buy") && !shaded(p, h) && p.water >= m.price) {
            P seller = null;
            for (P q : m.all) {
                if (shaded(q, h) && q.burn < p.burn && !q.parasol && !q.hat && (seller == null || q.burn < seller.burn)) {
                    seller = q;
                }
            }
            if (seller != null) {
                int place = p.place;
                p.place = seller.place;
                seller.place = place;
                p.water -= m.price;
                seller.water += m.price;
                p.bought++;
                seller.sold++;
            }
        }
    }

    boolean awayFromFoes(int n, int place) {
        for (int q = 0; q < m.all.size(); q++) {
            if (foes(n, q) && far(place, m.all.get(q).place) < 2) {
                return false;
            }
        }
        return true;
    }

    void goNearest(P p, Predicate<Integer> good) {
        List<Integer> places = new ArrayList<>();
        for (int place = 0; place < 25; place++) {
            if (at(place) == null && good.test(place)) {
                places.add(place);
            }
        }
        int from = p.place;
        places.stream().min(Comparator.<Integer>comparingInt(x -> far(from, x)).thenComparingInt(x -> x))
            .ifPresent(x -> p.place = x);
    }

    int evening() {
        if (m.now != 12 || m.day == 999) {
            return NONE;
        }
        m.day++;
        m.now = 0;
        for (P p : m.all) {
            p.burn = p.burn > m.rest ? p.burn - m.rest : 0;
        }
        past.clear();
        return m.day;
    }

    int of(int n, int what) {
        if (!is(n) || !in(what, 0, 10)) {
            return NONE;
        }
        P p = m.all.get(n);
        int shaded = m.now < 12 && shaded(p, m.now) ? 1 : 0;
        return new int[] {p.place, p.tall, p.girth, p.skin, p.water, p.parasol ? 1 : 0, p.hat ? 1 : 0, p.burn,
            p.sold, p.bought, shaded}[what];
    }

    int shade(int place, int h) {
        if (!in(place, 0, 24) || !in(h, 0, 11)) {
            return NONE;
        }
        for (P p : m.all) {
            if (shades(p, place, h, m.hours[h][3])) {
                return 1;
            }
        }
        return 0;
    }

    int book(int i, int what) {
        return in(i, 0, m.book.size() - 1) && in(what, 0, 3) ? m.book.get(i)[what] : NONE;
    }

    int walk(int from, int to, int what) {
        if (!in(from, 0, to) || !in(to, 0, 11) || what != 0 && what != 1 && !is(what - 10)) {
            return NONE;
        }
        int[] suns = new int[25];
        List<Integer> places = new ArrayList<>();
        for (int place = 0; place < 25; place++) {
            if (at(place) == null || !at(place).parasol) {
                places.add(place);
            }
            for (int h = from; h <= to; h++) {
                boolean sun = true;
                for (P p : m.all) {
                    sun &= !p.parasol || !parasolShade(p, h, m.hours[h][3]).contains(place);
                }
                suns[place] += sun ? m.hours[h][2] : 0;
            }
        }
        places.sort(Comparator.<Integer>comparingInt(x -> suns[x]).thenComparingInt(x -> x));
        List<P> without = new ArrayList<>(m.all);
        without.removeIf(p -> p.parasol);
        without.sort(Comparator.comparingInt(p -> -p.skin));
        int greatest = 0;
        int sum = 0;
        for (int i = 0; i < without.size(); i++) {
            int burn = suns[places.get(i)] * without.get(i).skin;
            greatest = Math.max(greatest, burn);
            sum += burn;
        }
        if (what < 10) {
            return what == 0 ? greatest : sum;
        }
        P asked = m.all.get(what - 10);
        return asked.parasol ? asked.place : places.get(without.indexOf(asked));
    }

    int fewest(int from, int to) {
        if (!in(from, 0, to) || !in(to, 0, 11)) {
            return NONE;
        }
        int n = m.all.size();
        for (int size = 0; size <= n; size++) {
            for (int set = 0; set < 1 << n; set++) {
                if (Integer.bitCount(set) == size && enough(set, from, to)) {
                    return set;
                }
            }
        }
        return NONE;
    }

    boolean enough(int set, int from, int to) {
        boolean[] bore = new boolean[m.all.size()];
        for (int i = 0; i < bore.length; i++) {
            bore[i] = m.all.get(i).parasol;
            m.all.get(i).parasol = (set >> i & 1) == 1;
        }
        boolean all = true;
        for (int h = from; h <= to && all; h++) {
            for (P p : m.all) {
                all = all && shaded(p, h);
            }
        }
        for (int i = 0; i < bore.length; i++) {
            m.all.get(i).parasol = bore[i];
        }
        return all;
    }

    int burn(P p, int h, int road) {
        return shaded(p, h, road) ? 0 : m.hours[h][2] * p.skin;
    }

    int turn(int h, int r, int what) {
        if (!in(h, 0, 11) || !in(r, 0, 7) || !in(what, 0, 1)) {
            return -100000;
        }
        int less = 0;
        int who = 0;
        for (int n = 0; n < m.all.size(); n++) {
            P p = m.all.get(n);
            int gain = burn(p, h, m.hours[h][3]) - burn(p, h, r);
            less += gain;
            who += gain > 0 ? 1 << n : 0;
        }
        return what == 0 ? less : who;
    }

    int bestHeat;
    int bestSet;

    int halts(int n, int k, int what) {
        if (!in(n, 0, 12) || !in(k, 1, 12) || !in(what, 0, 1)) {
            return NONE;
        }
        bestSet = NONE;
        bestHeat = Integer.MAX_VALUE;
        tryHours(0, n, k, 0, 0, 0);
        return bestSet == NONE || what == 1 ? bestSet : bestHeat;
    }

    /** Walking an HOUR is tried before halting in it, so that the first of equals is met first. */
    void tryHours(int h, int left, int k, int row, int heat, int set) {
        if (h == 12) {
            if (left == 0 && heat < bestHeat) {
                bestHeat = heat;
                bestSet = set;
            }
            return;
        }
        if (left > 0 && row < k) {
            tryHours(h + 1, left - 1, k, row + 1, heat + m.hours[h][2], set | 1 << h);
        }
        tryHours(h + 1, left, k, 0, heat, set);
    }

    boolean told(int p, int burn) {
        if (!is(p) || !in(burn, NONE, 9999)) {
            return false;
        }
        m.told.put(p, burn);
        return true;
    }

    boolean asTold() {
        for (int n = 0; n < m.all.size(); n++) {
            int told = m.told.getOrDefault(n, NONE);
            int burn = 0;
            for (int h = 0; h < 12; h++) {
                burn += burn(m.all.get(n), h, m.hours[h][3]);
            }
            if (told != NONE && told != burn) {
                return false;
            }
        }
        return true;
    }

    int thief(int what) {
        if (!in(what, 0, 3)) {
            return NONE;
        }
        if (what == 3) {
            return asTold() ? 1 : 0;
        }
        TreeSet<Integer> found = new TreeSet<>();
        for (int h = 0; h < 12; h++) {
            int road = m.hours[h][3];
            for (int r = 0; r < 8; r++) {
                m.hours[h][3] = r;
                if (r != road && asTold()) {
                    found.add(8 * h + r);
                }
            }
            m.hours[h][3] = road;
        }
        if (what == 0) {
            return found.size();
        }
        return found.isEmpty() ? NONE : what == 1 ? found.first() / 8 : found.first() % 8;
    }

    boolean undo() {
        if (past.isEmpty()) {
            return false;
        }
        Moment before = past.pop();
        before.rules = m.rules;
        before.told = m.told;
        m = before;
        return true;
    }

    boolean image(boolean taken) {
        if (taken) {
            image = m.copy();
            return true;
        }
        if (image == null) {
            return false;
        }
        m = image.copy();
        past.clear();
        return true;
    }

    int look(int what) {
        int[] first = {m.day, m.now, m.all.size(), m.fights, m.book.size(), m.state, m.price, m.rest,
            m.rules.size(), past.size()};
        if (in(what, 0, 9)) {
            return first[what];
        }
        if (in(what, 10, 69)) {
            return m.hours[(what - 10) / 5][(what - 10) % 5];
        }
        return is(what - 80) ? m.told.getOrDefault(what - 80, NONE) : -2;
    }
}
