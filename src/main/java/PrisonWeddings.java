/** Weddings inside the rules of a debtors' gaol, as the books of its parsons show them. */
public final class PrisonWeddings {
    public static final int BAD = -1, NO = -2, FULL = -3, NONE = -4;

    private static final int PERSONS = 8, PARSONS = 3, LINES = 8, SLOTS = PARSONS * LINES;
    private static final int LETTERS = 200, SIGHTS = 6, UNDOABLE = 8, KEEPABLE = 2;
    private static final int WIDOW = 1, LORD = 2, HEIRESS = 2;
    private static final int PLAIN = 0, SLY = 1, BOLD = 2;
    private static final int BLANK = 0, TWO = 1, NOBODY = 2;
    private static final int LAST_DAY = 999, LAST_SEEN_DAY = 99, CHILD_DAYS = 9;
    private static final int ALL_KINDS = 7, KINDS_WITH_BLANKS = 6;
    private static final int WEDDING = 8;
    private static final int DONE = 0;
    private static final int NO_SLOT = -1;
    private static final String FIRST_TEXT =
        "m0,12,5;m1,40,2;m2,0,50;w0,3,8;w1,30,12;w2,0,60;w0,9,20;p0,2;p1,3;p2,5;l30;";

    private final Script script;
    private final Roll roll;
    private final Roll draft;
    private final House house;
    private final House trial;
    private final Sights sights;
    private final Shelf past;
    private final Shelf kept;

    public PrisonWeddings() {
        script = new Script();
        roll = new Roll();
        draft = new Roll();
        house = new House(roll);
        trial = new House(roll);
        sights = new Sights();
        past = new Shelf(UNDOABLE);
        kept = new Shelf(KEEPABLE);
        for (int i = 0; i < FIRST_TEXT.length(); i++) {
            script.add(FIRST_TEXT.charAt(i));
        }
        roll.readFrom(script);
        house.open();
        script.length = 0;
    }

    // ---- gaols

    public int write(int letter) {
        if (letter < 32 || letter > 126) {
            return BAD;
        }
        return script.add((char) letter) ? script.length : FULL;
    }

    public int wipe() {
        int length = script.length;
        script.length = 0;
        return length;
    }

    public int fault() {
        return draft.readFrom(script);
    }

    public int lay() {
        if (draft.readFrom(script) != NONE || draft.persons < 1 || draft.parsons < 1) {
            return NO;
        }
        roll.readFrom(script);
        house.open();
        sights.size = 0;
        past.size = 0;
        kept.size = 0;
        return roll.persons;
    }

    public int person(int a, int what) {
        if (!roll.isPerson(a)) {
            return BAD;
        }
        switch (what) {
            case 0: return roll.female[a] ? 1 : 0;
            case 1: return roll.kind[a];
            case 2: return roll.debts[a];
            case 3: return house.books.coins[a];
            case 4: return house.mateToday(a);
            case 5: return house.owedBy(a);
            case 6: return house.books.linesWith(a);
            default: return BAD;
        }
    }

    public int parson(int p, int what) {
        if (!roll.isParson(p)) {
            return BAD;
        }
        switch (what) {
            case 0: return roll.trade[p];
            case 1: return roll.price[p];
            case 2: return house.books.lines[p];
            case 3: return house.books.blanksOf(p);
            case 4: return house.books.paid[p];
            default: return BAD;
        }
    }

    public int line(int p, int l, int what) {
        int s = house.books.slotOf(p, l);
        if (s == NO_SLOT) {
            return BAD;
        }
        boolean ofTwo = house.books.state[s] == TWO;
        switch (what) {
            case 0: return house.books.begun[s];
            case 1: return ofTwo ? house.books.man[s] : NONE;
            case 2: return ofTwo ? house.books.woman[s] : NONE;
            case 3: return house.books.state[s] == BLANK ? 1 : 0;
            case 4: return house.isHeld(s) ? 1 : 0;
            case 5: return ofTwo ? house.books.written[s] : NONE;
            default: return BAD;
        }
    }

    // ---- days

    public int wed(int p, int a, int b) {
        if (!roll.isParson(p) || !roll.areTwo(a, b)) {
            return BAD;
        }
        int refusal = house.refuseWedding(p, a, b);
        if (refusal != DONE) {
            return refusal;
        }
        past.put(house.books);
        return house.writeWedding(p, a, b);
    }

    public int leave(int p) {
        if (!roll.isParson(p)) {
            return BAD;
        }
        int refusal = house.refuseBlank(p);
        if (refusal != DONE) {
            return refusal;
        }
        past.put(house.books);
        return house.books.begin(p);
    }

    public int fill(int p, int l, int a, int b) {
        int s = house.books.slotOf(p, l);
        if (s == NO_SLOT || !roll.areTwo(a, b)) {
            return BAD;
        }
        if (house.books.state[s] != BLANK || !roll.canPair(a, b)) {
            return NO;
        }
        int cost = house.costToFill(p, s);
        if (!house.canPay(a, b, cost)) {
            return NO;
        }
        past.put(house.books);
        house.writeTwo(p, s, a, b, cost);
        return cost;
    }

    public int strike(int p, int l) {
        int s = house.books.slotOf(p, l);
        if (s == NO_SLOT) {
            return BAD;
        }
        if (house.books.state[s] != TWO) {
            return NO;
        }
        past.put(house.books);
        house.books.state[s] = NOBODY;
        return house.countHeld();
    }

    public int pass(int n) {
        if (n < 1 || n > 30) {
            return BAD;
        }
        past.put(house.books);
        house.books.day += n;
        return house.books.day;
    }

    public int undo() {
        return past.takeInto(house.books) ? past.size : NO;
    }

    // ---- what holds

    public int mate(int a, int d) {
        if (!roll.isPerson(a) || !isDay(d)) {
            return BAD;
        }
        return house.mateBy(a, d);
    }

    public int twice() {
        int bits = 0;
        for (int a = 0; a < roll.persons; a++) {
            if (house.books.linesWith(a) >= 2) {
                bits |= 1 << a;
            }
        }
        return bits;
    }

    public int falseOnes() {
        return house.books.countOf(TWO) - house.mostLinesApart();
    }

    public int date(int p, int d, int what) {
        if (!roll.isParson(p) || !isDay(d) || !isPart(what)) {
            return BAD;
        }
        int l = house.cheapestLine(p, d);
        if (l == NONE || what == 1) {
            return l;
        }
        return house.costOfLine(p, l);
    }

    public int look(int what) {
        if (!isPart(what)) {
            return BAD;
        }
        int bits = house.booksThatHold();
        return what == 0 ? Integer.bitCount(bits) : bits;
    }

    public int can(int a) {
        if (!roll.isPerson(a)) {
            return BAD;
        }
        int bits = 0;
        for (int b = 0; b < roll.persons; b++) {
            if (house.canWedSomewhere(a, b)) {
                bits |= 1 << b;
            }
        }
        return bits;
    }

    // ---- what was seen

    public int see(int a, int b, int d, boolean were) {
        if (!roll.areTwo(a, b) || d < 0 || d > LAST_SEEN_DAY) {
            return BAD;
        }
        return sights.add(a, b, d, were) ? sights.size : FULL;
    }

    public int forget() {
        int size = sights.size;
        sights.size = 0;
        return size;
    }

    public int trueBy(int what) {
        if (!isPart(what)) {
            return BAD;
        }
        int many = 0;
        int first = NONE;
        for (int s = 0; s < SLOTS; s++) {
            if (house.books.isOfTwo(s) && isSeenWithout(s)) {
                many++;
                first = first == NONE ? 10 * (s / LINES) + s % LINES : first;
            }
        }
        if (what == 1) {
            return first;
        }
        return isSeenWithout(NO_SLOT) ? many + 256 : many;
    }

    private boolean isSeenWithout(int struck) {
        house.holdings.settle(struck);
        return sights.areSo(house.holdings);
    }

    public int hand(int p, int l) {
        int s = house.books.slotOf(p, l);
        if (s == NO_SLOT) {
            return BAD;
        }
        if (house.books.state[s] != TWO) {
            return NO;
        }
        return house.books.written[s] == house.books.begun[s] ? ALL_KINDS : KINDS_WITH_BLANKS;
    }

    public int child(int a, int d) {
        if (!roll.isPerson(a) || !roll.female[a] || !isDay(d)) {
            return BAD;
        }
        return house.mateBy(a, d - CHILD_DAYS) == NONE ? 0 : 1;
    }

    // ---- touts, gaols

    public int touts(int n, int x, int part) {
        if (n < 0 || n > PERSONS || x < 0 || x > 10 || !isPart(part)) {
            return BAD;
        }
        int all = 1;
        for (int left = Integer.bitCount(house.singles(true)); left > 0; left--) {
            all *= 10;
        }
        int hits = house.waysToWed(n, x);
        int common = commonDivisor(hits, all);
        if (common < 1) {
            return NONE;
        }
        return (part == 0 ? hits : all) / common;
    }

    public int gaol(int z, int n, int what) {
        if (z < 0 || z > 9999 || n < 1 || n > 40 || !isPart(what)) {
            return BAD;
        }
        trial.books.copyFrom(house.books);
        int before = trial.books.paidInAll();
        for (int k = 0; k < n; k++) {
            trial.liveDay(draw(z, k));
        }
        return what == 0 ? trial.countHeld() : trial.books.paidInAll() - before;
    }

    public int keep() {
        if (kept.size >= KEEPABLE) {
            return FULL;
        }
        kept.put(house.books);
        return kept.size;
    }

    public int back() {
        if (!kept.takeInto(house.books)) {
            return NO;
        }
        past.size = 0;
        return kept.size;
    }

    public int count(int what) {
        switch (what) {
            case 0: return roll.persons;
            case 1: return roll.parsons;
            case 2: return house.books.day;
            case 3: return roll.law;
            case 4: return house.books.countOf(TWO);
            case 5: return house.countHeld();
            case 6: return house.books.countOf(BLANK);
            case 7: return sights.size;
            case 8: return past.size;
            case 9: return kept.size;
            case 10: return script.length;
            default: return BAD;
        }
    }

    private static boolean isDay(int d) {
        return d >= 0 && d <= LAST_DAY;
    }

    private static boolean isPart(int what) {
        return what == 0 || what == 1;
    }

    private static int draw(int z, int k) {
        long x = 7919L * z + 6151L * k + 1;
        return (int) (x * x % 65521);
    }

    private static int commonDivisor(int a, int b) {
        int high = a;
        int low = b;
        // Numbers of an int are through after fewer than 50 steps.
        for (int step = 0; step < 64 && low != 0; step++) {
            int rest = high % low;
            high = low;
            low = rest;
        }
        return high;
    }

    /** THE TEXT. */
    private static final class Script {
        final char[] letters = new char[LETTERS];
        int length;

        boolean add(char letter) {
            if (length < 0 || length >= letters.length) {
                return false;
            }
            letters[length] = letter;
            length++;
            return true;
        }

        /** Behind the end stands a sign that no ITEM has. */
        char at(int place) {
            return place >= 0 && place < length && place < letters.length ? letters[place] : 0;
        }
    }

    /** The PERSONS, the PARSONS and the LAW, as a TEXT tells them. */
    private static final class Roll {
        int persons;
        int parsons;
        int law;
        final boolean[] female = new boolean[PERSONS];
        final int[] kind = new int[PERSONS];
        final int[] debts = new int[PERSONS];
        final int[] purse = new int[PERSONS];
        final int[] trade = new int[PARSONS];
        final int[] price = new int[PARSONS];
        final int[] number = new int[3];

        /** Answers the FAULT, or NONE. */
        int readFrom(Script script) {
            persons = 0;
            parsons = 0;
            law = 60;
            int at = 0;
            while (at < script.length) {
                int next = readItem(script, at);
                if (next <= at) {
                    return at;
                }
                at = next;
            }
            return NONE;
        }

        /** Answers the place behind the ITEM, or NONE if it is not so. */
        private int readItem(Script script, int start) {
            char letter = script.at(start);
            int wanted = numbersOf(letter);
            int at = wanted == 0 ? NONE : start + 1;
            for (int i = 0; i < wanted && at > start; i++) {
                at = readNumber(script, at, i, i + 1 < wanted ? ',' : ';');
            }
            return at > start && enter(letter) ? at : NONE;
        }

        private static int numbersOf(char letter) {
            if (letter == 'm' || letter == 'w') {
                return 3;
            }
            if (letter == 'p') {
                return 2;
            }
            return letter == 'l' ? 1 : 0;
        }

        /** Answers the place behind the sign that ends the number, or NONE if it is not so. */
        private int readNumber(Script script, int start, int i, char end) {
            int at = start;
            int value = 0;
            while (at < start + 2 && isFigure(script.at(at))) {
                value = 10 * value + script.at(at) - '0';
                at++;
            }
            if (at == start || script.at(at) != end || i < 0 || i >= number.length) {
                return NONE;
            }
            number[i] = value;
            return at + 1;
        }

        private static boolean isFigure(char sign) {
            return sign >= '0' && sign <= '9';
        }

        private boolean enter(char letter) {
            if (letter == 'm' || letter == 'w') {
                return enterPerson(letter == 'w');
            }
            return letter == 'p' ? enterParson() : enterLaw();
        }

        private boolean enterPerson(boolean isWoman) {
            if (persons >= PERSONS || number[0] > 2 || number[1] > 60 || number[2] > 60) {
                return false;
            }
            female[persons] = isWoman;
            kind[persons] = number[0];
            debts[persons] = number[1];
            purse[persons] = number[2];
            persons++;
            return true;
        }

        private boolean enterParson() {
            if (parsons >= PARSONS || number[0] > 2 || number[1] > 20) {
                return false;
            }
            trade[parsons] = number[0];
            price[parsons] = number[1];
            parsons++;
            return true;
        }

        private boolean enterLaw() {
            if (number[0] < 1) {
                return false;
            }
            law = number[0];
            return true;
        }

        boolean isPerson(int a) {
            return a >= 0 && a < persons;
        }

        boolean isParson(int p) {
            return p >= 0 && p < parsons;
        }

        boolean areTwo(int a, int b) {
            return a != b && a >= 0 && a < persons && b >= 0 && b < persons;
        }

        boolean canPair(int a, int b) {
            if (!areTwo(a, b) || female[a] == female[b]) {
                return false;
            }
            int man = female[a] ? b : a;
            int woman = female[a] ? a : b;
            return kind[woman] != HEIRESS || kind[man] == LORD;
        }
    }

    /** All that days change: which day it is, the COINS, the BOOKS. */
    private static final class Books {
        int day;
        final int[] coins = new int[PERSONS];
        final int[] paid = new int[PARSONS];
        final int[] lines = new int[PARSONS];
        // A LINE's slot is LINES times its PARSON, and the LINE: so slots go by PARSON, then by LINE.
        final int[] state = new int[SLOTS];
        final int[] begun = new int[SLOTS];
        final int[] man = new int[SLOTS];
        final int[] woman = new int[SLOTS];
        final int[] written = new int[SLOTS];

        void open(Roll roll) {
            day = 0;
            for (int a = 0; a < PERSONS; a++) {
                coins[a] = roll.isPerson(a) ? roll.purse[a] : 0;
            }
            for (int p = 0; p < PARSONS; p++) {
                paid[p] = 0;
                lines[p] = 0;
            }
        }

        void copyFrom(Books other) {
            day = other.day;
            System.arraycopy(other.coins, 0, coins, 0, PERSONS);
            System.arraycopy(other.paid, 0, paid, 0, PARSONS);
            System.arraycopy(other.lines, 0, lines, 0, PARSONS);
            System.arraycopy(other.state, 0, state, 0, SLOTS);
            System.arraycopy(other.begun, 0, begun, 0, SLOTS);
            System.arraycopy(other.man, 0, man, 0, SLOTS);
            System.arraycopy(other.woman, 0, woman, 0, SLOTS);
            System.arraycopy(other.written, 0, written, 0, SLOTS);
        }

        int slotOf(int p, int l) {
            return p >= 0 && p < PARSONS && l >= 0 && l < LINES && l < lines[p] ? p * LINES + l : NO_SLOT;
        }

        boolean isLine(int s) {
            return s >= 0 && s < SLOTS && s % LINES < lines[s / LINES];
        }

        boolean isOfTwo(int s) {
            return isLine(s) && state[s] == TWO;
        }

        boolean hasRoom(int p) {
            return p >= 0 && p < PARSONS && lines[p] < LINES;
        }

        /** The next LINE is begun today, BLANK as yet: which. */
        int begin(int p) {
            if (!hasRoom(p)) {
                return FULL;
            }
            int l = lines[p];
            lines[p]++;
            int s = slotOf(p, l);
            if (s == NO_SLOT) {
                return FULL;
            }
            state[s] = BLANK;
            begun[s] = day;
            return l;
        }

        int countOf(int wanted) {
            int many = 0;
            for (int s = 0; s < SLOTS; s++) {
                if (isLine(s) && state[s] == wanted) {
                    many++;
                }
            }
            return many;
        }

        int blanksOf(int p) {
            int many = 0;
            for (int l = 0; l < LINES; l++) {
                int s = slotOf(p, l);
                if (s != NO_SLOT && state[s] == BLANK) {
                    many++;
                }
            }
            return many;
        }

        int linesWith(int a) {
            int many = 0;
            for (int s = 0; s < SLOTS; s++) {
                if (isOfTwo(s) && (man[s] == a || woman[s] == a)) {
                    many++;
                }
            }
            return many;
        }

        int paidInAll() {
            int sum = 0;
            for (int p = 0; p < PARSONS; p++) {
                sum += paid[p];
            }
            return sum;
        }
    }

    /** Which LINES HOLD, told by the one LINE of each PERSON that does. */
    private static final class Holdings {
        final Books books;
        final int[] held = new int[PERSONS];
        final int[] next = new int[PARSONS];

        Holdings(Books told) {
            books = told;
        }

        /** As if the LINE struck were of nobody, too (NO_SLOT: none is). */
        void settle(int struck) {
            for (int a = 0; a < PERSONS; a++) {
                held[a] = NO_SLOT;
            }
            for (int p = 0; p < PARSONS; p++) {
                next[p] = 0;
            }
            for (int gone = 0; gone < SLOTS; gone++) {
                int s = takeEarliest();
                if (s != struck && books.isOfTwo(s)) {
                    holdIfFree(s, books.man[s], books.woman[s]);
                }
            }
        }

        /** Days never fall within one BOOK, so only the next LINE of each is looked at. */
        private int takeEarliest() {
            int best = NO_SLOT;
            for (int p = 0; p < PARSONS; p++) {
                int s = books.slotOf(p, next[p]);
                if (s != NO_SLOT && (best == NO_SLOT || books.begun[s] < books.begun[best])) {
                    best = s;
                }
            }
            if (best != NO_SLOT) {
                next[best / LINES]++;
            }
            return best;
        }

        private void holdIfFree(int s, int man, int woman) {
            if (isRow(man) && isRow(woman) && held[man] == NO_SLOT && held[woman] == NO_SLOT) {
                held[man] = s;
                held[woman] = s;
            }
        }

        private static boolean isRow(int a) {
            return a >= 0 && a < PERSONS;
        }

        boolean isHeld(int s) {
            return books.isOfTwo(s) && isRow(books.man[s]) && held[books.man[s]] == s;
        }

        int mateOf(int a, int d) {
            int s = isRow(a) ? held[a] : NO_SLOT;
            if (!books.isOfTwo(s) || books.begun[s] > d) {
                return NONE;
            }
            return books.man[s] == a ? books.woman[s] : books.man[s];
        }
    }

    /** A stack of BOOKS as they stood, the oldest of which gives way when it is full. */
    private static final class Shelf {
        final Books[] rows;
        int size;

        Shelf(int room) {
            rows = new Books[room < 0 ? 0 : room];
            for (int i = 0; i < rows.length; i++) {
                rows[i] = new Books();
            }
        }

        void put(Books books) {
            if (size >= rows.length) {
                dropOldest();
            }
            if (size >= 0 && size < rows.length) {
                rows[size].copyFrom(books);
                size++;
            }
        }

        private void dropOldest() {
            if (rows.length == 0) {
                return;
            }
            Books oldest = rows[0];
            for (int i = 1; i < rows.length; i++) {
                rows[i - 1] = rows[i];
            }
            rows[rows.length - 1] = oldest;
            size = rows.length - 1;
        }

        boolean takeInto(Books books) {
            if (size < 1 || size > rows.length) {
                return false;
            }
            size--;
            books.copyFrom(rows[size]);
            return true;
        }
    }

    /** What is SEEN. */
    private static final class Sights {
        int size;
        final int[] one = new int[SIGHTS];
        final int[] other = new int[SIGHTS];
        final int[] day = new int[SIGHTS];
        final boolean[] mates = new boolean[SIGHTS];

        boolean add(int a, int b, int d, boolean were) {
            if (size < 0 || size >= SIGHTS) {
                return false;
            }
            one[size] = a;
            other[size] = b;
            day[size] = d;
            mates[size] = were;
            size++;
            return true;
        }

        boolean areSo(Holdings holdings) {
            for (int i = 0; i < SIGHTS && i < size; i++) {
                if ((holdings.mateOf(one[i], day[i]) == other[i]) != mates[i]) {
                    return false;
                }
            }
            return true;
        }
    }

    /** The rules, for BOOKS that are so far. */
    private static final class House {
        final Roll roll;
        final Books books = new Books();
        final Holdings holdings = new Holdings(books);
        final int[] linked = new int[PERSONS];

        House(Roll laid) {
            roll = laid;
        }

        void open() {
            books.open(roll);
        }

        private void settle() {
            holdings.settle(NO_SLOT);
        }

        int mateBy(int a, int d) {
            settle();
            return holdings.mateOf(a, d);
        }

        int mateToday(int a) {
            return mateBy(a, books.day);
        }

        boolean isHeld(int s) {
            settle();
            return holdings.isHeld(s);
        }

        int countHeld() {
            settle();
            int many = 0;
            for (int s = 0; s < SLOTS; s++) {
                if (holdings.isHeld(s)) {
                    many++;
                }
            }
            return many;
        }

        int booksThatHold() {
            settle();
            int bits = 0;
            for (int s = 0; s < SLOTS; s++) {
                if (holdings.isHeld(s)) {
                    bits |= 1 << s / LINES;
                }
            }
            return bits;
        }

        int owedBy(int a) {
            if (!roll.isPerson(a)) {
                return 0;
            }
            int other = mateToday(a);
            if (roll.female[a]) {
                return other == NONE ? roll.debts[a] : 0;
            }
            if (!roll.isPerson(other)) {
                return roll.debts[a];
            }
            int hers = roll.kind[other] == WIDOW ? roll.debts[other] / 2 : roll.debts[other];
            return roll.debts[a] + hers;
        }

        private boolean isLaw() {
            return books.day >= roll.law;
        }

        boolean canPay(int a, int b, int cost) {
            return roll.isPerson(a) && roll.isPerson(b) && books.coins[a] + books.coins[b] >= cost;
        }

        /** NO, FULL, or DONE if the WEDDING would be done. */
        int refuseWedding(int p, int a, int b) {
            if (!roll.isParson(p) || !roll.canPair(a, b) || isLaw() || !canPay(a, b, roll.price[p])) {
                return NO;
            }
            return books.hasRoom(p) ? DONE : FULL;
        }

        /** NO, FULL, or DONE if a LINE would be LEFT BLANK. */
        int refuseBlank(int p) {
            if (!roll.isParson(p) || roll.trade[p] == PLAIN || isLaw()) {
                return NO;
            }
            if (roll.trade[p] == SLY && books.blanksOf(p) >= 2) {
                return NO;
            }
            return books.hasRoom(p) ? DONE : FULL;
        }

        int writeWedding(int p, int a, int b) {
            int l = books.begin(p);
            int s = books.slotOf(p, l);
            if (s != NO_SLOT) {
                writeTwo(p, s, a, b, roll.price[p]);
            }
            return l;
        }

        void writeTwo(int p, int s, int a, int b, int cost) {
            if (!roll.isParson(p) || !books.isLine(s) || !roll.areTwo(a, b)) {
                return;
            }
            int man = roll.female[a] ? b : a;
            int woman = roll.female[a] ? a : b;
            int his = Math.min(books.coins[man], cost);
            books.coins[man] -= his;
            books.coins[woman] -= cost - his;
            books.paid[p] += cost;
            books.state[s] = TWO;
            books.man[s] = man;
            books.woman[s] = woman;
            books.written[s] = books.day;
        }

        int costToFill(int p, int s) {
            if (!roll.isParson(p) || !books.isLine(s)) {
                return 0;
            }
            int days = books.day - books.begun[s];
            return roll.price[p] + (roll.trade[p] == BOLD ? days / 2 : days);
        }

        int costOfLine(int p, int l) {
            int s = books.slotOf(p, l);
            if (s != NO_SLOT) {
                return costToFill(p, s);
            }
            return roll.isParson(p) ? roll.price[p] : 0;
        }

        /** Which LINE of a DATE, WEDDING for the next one, or NONE. */
        int cheapestLine(int p, int d) {
            int best = NONE;
            for (int l = 0; l < LINES; l++) {
                int s = books.slotOf(p, l);
                boolean fits = s != NO_SLOT && books.state[s] == BLANK && books.begun[s] <= d;
                if (fits && (best == NONE || costOfLine(p, l) < costOfLine(p, best))) {
                    best = l;
                }
            }
            boolean weds = books.hasRoom(p) && !isLaw() && books.day <= d;
            if (weds && (best == NONE || costOfLine(p, WEDDING) < costOfLine(p, best))) {
                return WEDDING;
            }
            return best;
        }

        boolean canWedSomewhere(int a, int b) {
            for (int p = 0; p < roll.parsons; p++) {
                if (refuseWedding(p, a, b) == DONE) {
                    return true;
                }
            }
            return false;
        }

        /**
         * The most LINES of two of which no two have anybody in common. Men and women being the two sides,
         * these are as many as the fewest PERSONS of whom one is in every LINE (Koenig's theorem).
         */
        int mostLinesApart() {
            linkPersons();
            int fewest = PERSONS;
            for (int chosen = 0; chosen < 1 << PERSONS; chosen++) {
                int many = Integer.bitCount(chosen);
                if (many < fewest && isInEveryLine(chosen)) {
                    fewest = many;
                }
            }
            return fewest;
        }

        private void linkPersons() {
            for (int a = 0; a < PERSONS; a++) {
                linked[a] = 0;
            }
            for (int s = 0; s < SLOTS; s++) {
                if (books.isOfTwo(s) && roll.areTwo(books.man[s], books.woman[s])) {
                    linked[books.man[s]] |= 1 << books.woman[s];
                }
            }
        }

        private boolean isInEveryLine(int chosen) {
            for (int a = 0; a < PERSONS; a++) {
                if ((chosen >> a & 1) == 0 && (linked[a] & ~chosen) != 0) {
                    return false;
                }
            }
            return true;
        }

        /** The WOMEN, or the MEN, without a MATE by today, as bits. */
        int singles(boolean women) {
            settle();
            int bits = 0;
            for (int a = 0; a < roll.persons; a++) {
                if (roll.female[a] == women && holdings.mateOf(a, books.day) == NONE) {
                    bits |= 1 << a;
                }
            }
            return bits;
        }

        /** Of ten ways for each WOMAN without a MATE those by which n or more WOMEN have one then. */
        int waysToWed(int n, int x) {
            int women = singles(true);
            int men = singles(false);
            int wedded = countHeld();
            int ways = 0;
            for (int brought = 0; brought < 1 << PERSONS; brought++) {
                if ((brought & ~women) == 0 && wedded + countTouted(brought, men) >= n) {
                    ways += waysToBring(brought, women, x);
                }
            }
            return ways;
        }

        private static int waysToBring(int brought, int women, int x) {
            int ways = 1;
            for (int a = 0; a < PERSONS; a++) {
                if ((women >> a & 1) == 1) {
                    ways *= (brought >> a & 1) == 1 ? x : 10 - x;
                }
            }
            return ways;
        }

        /** How many of the WOMEN brought are wed. Nobody is wed twice by it, so COINS stay what they are. */
        private int countTouted(int brought, int men) {
            int free = men;
            int many = 0;
            for (int a = 0; a < roll.persons; a++) {
                boolean comes = (brought >> a & 1) == 1 && books.lines[0] + many < LINES;
                int man = comes ? lowestFor(a, free) : NONE;
                if (man != NONE) {
                    free &= ~(1 << man);
                    many++;
                }
            }
            return many;
        }

        private int lowestFor(int woman, int free) {
            for (int man = 0; man < roll.persons; man++) {
                if ((free >> man & 1) == 1 && refuseWedding(0, man, woman) == DONE) {
                    return man;
                }
            }
            return NONE;
        }

        /** A day of a GAOL. */
        void liveDay(int drawn) {
            int persons = roll.persons;
            int parsons = roll.parsons;
            if (persons < 1 || parsons < 1) {
                return;
            }
            int p = drawn % parsons;
            int a = drawn / 4 % persons;
            int b = drawn / 32 % persons;
            if (refuseWedding(p, a, b) == DONE) {
                writeWedding(p, a, b);
            } else if (drawn / 256 % 2 == 0 && refuseBlank(p) == DONE) {
                books.begin(p);
            }
            books.day++;
        }
    }
}
