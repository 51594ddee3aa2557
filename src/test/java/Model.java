import java.math.BigInteger;
import java.util.ArrayList;
import java.util.Comparator;
import java.util.List;
import java.util.regex.Matcher;
import java.util.regex.Pattern;

/** The document once more, by other ways than the class: lists, copies, tries of everything. */
final class Model {
    static final int BAD = -1, NO = -2, FULL = -3, NONE = -4;

    private static final class Folk {
        boolean woman;
        int kind, debts, purse;
    }

    private static final class Parson {
        int kind, price;
    }

    private static final class Laid {
        final List<Folk> folk = new ArrayList<>();
        final List<Parson> parsons = new ArrayList<>();
        int law = 60;
    }

    private static final class Entry {
        final int p, l, begun;
        int man = NONE, woman = NONE, written = NONE;
        boolean blank = true;

        Entry(int p, int l, int begun) {
            this.p = p;
            this.l = l;
            this.begun = begun;
        }

        boolean two() {
            return man != NONE;
        }

        Entry copy() {
            Entry e = new Entry(p, l, begun);
            e.man = man;
            e.woman = woman;
            e.written = written;
            e.blank = blank;
            return e;
        }

        boolean has(int a) {
            return two() && (man == a || woman == a);
        }
    }

    private static final class World {
        int day;
        int[] coins;
        int[] paid = new int[3];
        final List<List<Entry>> books = new ArrayList<>();

        World copy() {
            World w = new World();
            w.day = day;
            w.coins = coins.clone();
            w.paid = paid.clone();
            for (List<Entry> book : books) {
                List<Entry> other = new ArrayList<>();
                for (Entry e : book) {
                    other.add(e.copy());
                }
                w.books.add(other);
            }
            return w;
        }

        List<Entry> twos() {
            List<Entry> all = new ArrayList<>();
            for (List<Entry> book : books) {
                for (Entry e : book) {
                    if (e.two()) {
                        all.add(e);
                    }
                }
            }
            return all;
        }

        List<Entry> holding() {
            List<Entry> all = twos();
            all.sort(Comparator.<Entry>comparingInt(e -> e.begun).thenComparingInt(e -> e.p).thenComparingInt(e -> e.l));
            List<Entry> held = new ArrayList<>();
            for (Entry e : all) {
                if (held.stream().noneMatch(h -> h.has(e.man) || h.has(e.woman))) {
                    held.add(e);
                }
            }
            return held;
        }

        int mate(int a, int d) {
            for (Entry e : holding()) {
                if (e.has(a) && e.begun <= d) {
                    return e.man == a ? e.woman : e.man;
                }
            }
            return NONE;
        }
    }

    private record Sight(int a, int b, int d, boolean were) { }

    private String text = "";
    private Laid laid;
    private World now;
    private List<World> undo = new ArrayList<>();
    private List<World> kept = new ArrayList<>();
    private List<Sight> seen = new ArrayList<>();

    Model() {
        text = "m0,12,5;m1,40,2;m2,0,50;w0,3,8;w1,30,12;w2,0,60;w0,9,20;p0,2;p1,3;p2,5;l30;";
        lay();
        text = "";
    }

    int write(int letter) {
        if (letter < 32 || letter > 126) return BAD;
        if (text.length() == 200) return FULL;
        text += (char) letter;
        return text.length();
    }

    int wipe() {
        int n = text.length();
        text = "";
        return n;
    }

    private static final Pattern ITEM =
        Pattern.compile("([mw])(\\d\\d?),(\\d\\d?),(\\d\\d?);|p(\\d\\d?),(\\d\\d?);|l(\\d\\d?);");

    private int parse(Laid into) {
        int at = 0;
        Matcher m = ITEM.matcher(text);
        while (at < text.length()) {
            m.region(at, text.length());
            if (!m.lookingAt()) return at;
            if (m.group(1) != null) {
                Folk f = new Folk();
                f.woman = m.group(1).equals("w");
                f.kind = Integer.parseInt(m.group(2));
                f.debts = Integer.parseInt(m.group(3));
                f.purse = Integer.parseInt(m.group(4));
                into.folk.add(f);
                if (f.kind > 2 || f.debts > 60 || f.purse > 60 || into.folk.size() > 8) return at;
            } else if (m.group(5) != null) {
                Parson p = new Parson();
                p.kind = Integer.parseInt(m.group(5));
                p.price = Integer.parseInt(m.group(6));
                into.parsons.add(p);
                if (p.kind > 2 || p.price > 20 || into.parsons.size() > 3) return at;
            } else {
                into.law = Integer.parseInt(m.group(7));
                if (into.law == 0) return at;
            }
            at = m.end();
        }
        return NONE;
    }

    int fault() {
        return parse(new Laid());
    }

    int lay() {
        Laid l = new Laid();
        if (parse(l) != NONE || l.folk.isEmpty() || l.parsons.isEmpty()) return NO;
        laid = l;
        now = new World();
        now.coins = new int[l.folk.size()];
        for (int a = 0; a < now.coins.length; a++) now.coins[a] = l.folk.get(a).purse;
        for (int p = 0; p < l.parsons.size(); p++) now.books.add(new ArrayList<>());
        undo.clear();
        kept.clear();
        seen.clear();
        return l.folk.size();
    }

    private boolean noPerson(int a) {
        return a < 0 || a >= laid.folk.size();
    }

    private boolean noParson(int p) {
        return p < 0 || p >= laid.parsons.size();
    }

    private boolean noLine(int p, int l) {
        return noParson(p) || l < 0 || l >= now.books.get(p).size();
    }

    int person(int a, int what) {
        if (noPerson(a) || what < 0 || what > 6) return BAD;
        Folk f = laid.folk.get(a);
        int mate = now.mate(a, now.day);
        int owes = f.debts;
        if (f.woman && mate != NONE) owes = 0;
        if (!f.woman && mate != NONE) {
            Folk w = laid.folk.get(mate);
            owes += w.kind == 1 ? w.debts / 2 : w.debts;
        }
        int lines = 0;
        for (Entry e : now.twos()) if (e.has(a)) lines++;
        return new int[] {f.woman ? 1 : 0, f.kind, f.debts, now.coins[a], mate, owes, lines}[what];
    }

    private int blanks(World w, int p) {
        return (int) w.books.get(p).stream().filter(e -> e.blank).count();
    }

    int parson(int p, int what) {
        if (noParson(p) || what < 0 || what > 4) return BAD;
        Parson q = laid.parsons.get(p);
        return new int[] {q.kind, q.price, now.books.get(p).size(), blanks(now, p), now.paid[p]}[what];
    }

    int line(int p, int l, int what) {
        if (noLine(p, l) || what < 0 || what > 5) return BAD;
        Entry e = now.books.get(p).get(l);
        return new int[] {e.begun, e.man, e.woman, e.blank ? 1 : 0, now.holding().contains(e) ? 1 : 0, e.written}[what];
    }

    private boolean pair(int a, int b) {
        Folk f = laid.folk.get(a), g = laid.folk.get(b);
        if (f.woman == g.woman) return false;
        Folk w = f.woman ? f : g, m = f.woman ? g : f;
        return !(w.kind == 2 && m.kind != 2);
    }

    private void pay(World w, Entry e, int a, int b, int cost) {
        e.man = laid.folk.get(a).woman ? b : a;
        e.woman = laid.folk.get(a).woman ? a : b;
        e.blank = false;
        e.written = w.day;
        for (int i = 0; i < cost; i++) {
            if (w.coins[e.man] > 0) w.coins[e.man]--;
            else w.coins[e.woman]--;
        }
        w.paid[e.p] += cost;
    }

    private int wedIn(World w, int p, int a, int b) {
        int price = laid.parsons.get(p).price;
        if (!pair(a, b) || w.day >= laid.law || w.coins[a] + w.coins[b] < price) return NO;
        if (w.books.get(p).size() == 8) return FULL;
        Entry e = new Entry(p, w.books.get(p).size(), w.day);
        w.books.get(p).add(e);
        pay(w, e, a, b, price);
        return e.l;
    }

    private int leaveIn(World w, int p) {
        int kind = laid.parsons.get(p).kind;
        if (kind == 0 || kind == 1 && blanks(w, p) > 1 || w.day >= laid.law) return NO;
        if (w.books.get(p).size() == 8) return FULL;
        w.books.get(p).add(new Entry(p, w.books.get(p).size(), w.day));
        return w.books.get(p).size() - 1;
    }

    private int remember(World before, int answer) {
        if (answer >= 0) {
            undo.add(before);
            if (undo.size() > 8) undo.remove(0);
        }
        return answer;
    }

    int wed(int p, int a, int b) {
        if (noParson(p) || noPerson(a) || noPerson(b) || a == b) return BAD;
        World before = now.copy();
        return remember(before, wedIn(now, p, a, b));
    }

    int leave(int p) {
        if (noParson(p)) return BAD;
        World before = now.copy();
        return remember(before, leaveIn(now, p));
    }

    private int costOf(Entry e) {
        Parson q = laid.parsons.get(e.p);
        int days = now.day - e.begun;
        return q.price + (q.kind == 2 ? days / 2 : days);
    }

    int fill(int p, int l, int a, int b) {
        if (noLine(p, l) || noPerson(a) || noPerson(b) || a == b) return BAD;
        Entry e = now.books.get(p).get(l);
        if (!e.blank || !pair(a, b) || now.coins[a] + now.coins[b] < costOf(e)) return NO;
        World before = now.copy();
        int cost = costOf(e);
        pay(now, e, a, b, cost);
        return remember(before, cost);
    }

    int strike(int p, int l) {
        if (noLine(p, l)) return BAD;
        Entry e = now.books.get(p).get(l);
        if (!e.two()) return NO;
        World before = now.copy();
        e.man = e.woman = e.written = NONE;
        return remember(before, now.holding().size());
    }

    int pass(int n) {
        if (n < 1 || n > 30) return BAD;
        World before = now.copy();
        now.day += n;
        return remember(before, now.day);
    }

    int undo() {
        if (undo.isEmpty()) return NO;
        now = undo.remove(undo.size() - 1);
        return undo.size();
    }

    int mate(int a, int d) {
        return noPerson(a) || d < 0 || d > 999 ? BAD : now.mate(a, d);
    }

    int twice() {
        int bits = 0;
        for (int a = 0; a < laid.folk.size(); a++) if (person(a, 6) > 1) bits += 1 << a;
        return bits;
    }

    int falseOnes() {
        List<Entry> all = now.twos();
        return all.size() - most(all, 0, 0);
    }

    private int most(List<Entry> all, int i, int taken) {
        if (i == all.size()) return 0;
        int best = most(all, i + 1, taken);
        int two = 1 << all.get(i).man | 1 << all.get(i).woman;
        return (taken & two) != 0 ? best : Math.max(best, 1 + most(all, i + 1, taken | two));
    }

    int date(int p, int d, int what) {
        if (noParson(p) || d < 0 || d > 999 || what < 0 || what > 1) return BAD;
        int cost = Integer.MAX_VALUE, which = NONE;
        for (Entry e : now.books.get(p)) {
            if (e.blank && e.begun <= d && costOf(e) < cost) {
                cost = costOf(e);
                which = e.l;
            }
        }
        int price = laid.parsons.get(p).price;
        if (now.day <= d && now.day < laid.law && now.books.get(p).size() < 8 && price < cost) {
            cost = price;
            which = 8;
        }
        return which == NONE ? NONE : what == 0 ? cost : which;
    }

    int look(int what) {
        if (what < 0 || what > 1) return BAD;
        int bits = 0;
        for (Entry e : now.holding()) bits |= 1 << e.p;
        return what == 1 ? bits : Integer.bitCount(bits);
    }

    int can(int a) {
        if (noPerson(a)) return BAD;
        int bits = 0;
        for (int b = 0; b < laid.folk.size(); b++) {
            for (int p = 0; p < laid.parsons.size(); p++) {
                if (wedIn(now.copy(), p, a, b) >= 0) bits |= 1 << b;
            }
        }
        return bits;
    }

    int see(int a, int b, int d, boolean were) {
        if (noPerson(a) || noPerson(b) || a == b || d < 0 || d > 99) return BAD;
        if (seen.size() == 6) return FULL;
        seen.add(new Sight(a, b, d, were));
        return seen.size();
    }

    int forget() {
        int n = seen.size();
        seen.clear();
        return n;
    }

    private boolean so(World w) {
        return seen.stream().allMatch(s -> (w.mate(s.a, s.d) == s.b) == s.were);
    }

    int trueBy(int what) {
        if (what < 0 || what > 1) return BAD;
        int many = 0, first = NONE;
        for (Entry e : now.twos()) {
            World w = now.copy();
            Entry f = w.books.get(e.p).get(e.l);
            f.man = f.woman = NONE;
            if (so(w)) {
                if (many == 0) first = 10 * e.p + e.l;
                many++;
            }
        }
        return what == 1 ? first : many + (so(now) ? 256 : 0);
    }

    int hand(int p, int l) {
        if (noLine(p, l)) return BAD;
        Entry e = now.books.get(p).get(l);
        return !e.two() ? NO : e.begun == e.written ? 1 + 2 + 4 : 2 + 4;
    }

    int child(int a, int d) {
        if (noPerson(a) || !laid.folk.get(a).woman || d < 0 || d > 999) return BAD;
        return now.mate(a, d - 9) == NONE ? 0 : 1;
    }

    int touts(int n, int x, int part) {
        if (n < 0 || n > 8 || x < 0 || x > 10 || part < 0 || part > 1) return BAD;
        BigInteger[] chance = {BigInteger.ZERO, BigInteger.ONE};
        List<Integer> women = new ArrayList<>();
        for (int a = 0; a < laid.folk.size(); a++) {
            if (laid.folk.get(a).woman && now.mate(a, now.day) == NONE) women.add(a);
        }
        BigInteger above = ways(now, women, 0, n, x);
        BigInteger below = BigInteger.TEN.pow(women.size());
        BigInteger common = above.gcd(below);
        chance[0] = above.divide(common);
        chance[1] = below.divide(common);
        return chance[part].intValueExact();
    }

    private BigInteger ways(World w, List<Integer> women, int i, int n, int x) {
        if (i == women.size()) {
            int wedded = 0;
            for (int a = 0; a < laid.folk.size(); a++) {
                if (laid.folk.get(a).woman && w.mate(a, w.day) != NONE) wedded++;
            }
            return wedded >= n ? BigInteger.ONE : BigInteger.ZERO;
        }
        World brought = w.copy();
        for (int m = 0; m < laid.folk.size(); m++) {
            if (!laid.folk.get(m).woman && brought.mate(m, w.day) == NONE && wedIn(brought, 0, m, women.get(i)) >= 0) {
                break;
            }
        }
        return ways(brought, women, i + 1, n, x).multiply(BigInteger.valueOf(x))
            .add(ways(w, women, i + 1, n, x).multiply(BigInteger.valueOf(10 - x)));
    }

    int gaol(int z, int n, int what) {
        if (z < 0 || z > 9999 || n < 1 || n > 40 || what < 0 || what > 1) return BAD;
        World w = now.copy();
        int before = w.paid[0] + w.paid[1] + w.paid[2];
        for (int k = 0; k < n; k++) {
            BigInteger x = BigInteger.valueOf(7919L * z + 6151L * k + 1);
            int draw = x.multiply(x).mod(BigInteger.valueOf(65521)).intValueExact();
            int p = draw % laid.parsons.size();
            int a = draw / 4 % laid.folk.size(), b = draw / 32 % laid.folk.size();
            if (wedIn(w, p, a, b) < 0 && draw / 256 % 2 == 0) leaveIn(w, p);
            w.day++;
        }
        return what == 0 ? w.holding().size() : w.paid[0] + w.paid[1] + w.paid[2] - before;
    }

    int keep() {
        if (kept.size() == 2) return FULL;
        kept.add(now.copy());
        return kept.size();
    }

    int back() {
        if (kept.isEmpty()) return NO;
        now = kept.remove(kept.size() - 1);
        undo.clear();
        return kept.size();
    }

    int count(int what) {
        if (what < 0 || what > 10) return BAD;
        int blank = 0;
        for (int p = 0; p < laid.parsons.size(); p++) blank += blanks(now, p);
        return new int[] {laid.folk.size(), laid.parsons.size(), now.day, laid.law, now.twos().size(),
            now.holding().size(), blank, seen.size(), undo.size(), kept.size(), text.length()}[what];
    }
}
