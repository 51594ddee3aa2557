import java.util.Random;

/** Runs of 512 calls by chance (the same ones each time), each answer held against the Model's. */
final class ModelTest {
    private static final Due due = new Due();
    private static final int[] FAR = {Integer.MIN_VALUE, Integer.MAX_VALUE, -1, -2, 8, 9, 100, 1000, 1 << 16, -1000};

    private final Random random;
    private final PrisonWeddings x = new PrisonWeddings();
    private final Model y = new Model();
    private final boolean rough;

    private ModelTest(int run) {
        random = new Random(run);
        rough = run % 4 == 0;
        due.part("run " + run);
    }

    public static void main(String[] args) {
        int runs = args.length > 0 ? Integer.parseInt(args[0]) : 1500;
        for (int run = 0; run < runs && !due.hasFailed(); run++) {
            new ModelTest(run).go(run);
        }
        due.close("ModelTest");
    }

    private void go(int run) {
        int calls = 0;
        if (run % 5 != 0) {
            calls += layNew();
        }
        while (calls < 512) {
            calls += random.nextInt(400) == 0 ? layNew() : any();
        }
    }

    private int below(int bound) {
        return rough && random.nextInt(30) == 0 ? FAR[random.nextInt(FAR.length)] : random.nextInt(bound);
    }

    private int layNew() {
        same("wipe", x.wipe(), y.wipe());
        String text = random.nextInt(4) == 0 ? spoilt(someText()) : someText();
        for (int i = 0; i < text.length(); i++) {
            same("write " + text.charAt(i), x.write(text.charAt(i)), y.write(text.charAt(i)));
        }
        same("fault of " + text, x.fault(), y.fault());
        same("lay " + text, x.lay(), y.lay());
        return text.length() + 3;
    }

    private String spoilt(String text) {
        StringBuilder s = new StringBuilder(text);
        String signs = "mwpl0123456789,;; x";
        for (int i = random.nextInt(3); i >= 0 && s.length() > 1; i--) {
            int at = random.nextInt(s.length());
            switch (random.nextInt(3)) {
                case 0 -> s.deleteCharAt(at);
                case 1 -> s.insert(at, signs.charAt(random.nextInt(signs.length())));
                default -> s.setCharAt(at, signs.charAt(random.nextInt(signs.length())));
            }
        }
        return s.toString();
    }

    private String someText() {
        StringBuilder s = new StringBuilder();
        int folk = 1 + random.nextInt(random.nextInt(10) == 0 ? 9 : 8);
        int women = random.nextInt(11);
        int rich = random.nextBoolean() ? 61 : 12;
        for (int i = 0; i < folk; i++) {
            s.append(random.nextInt(10) < women ? 'w' : 'm').append(random.nextInt(3)).append(',');
            s.append(random.nextInt(61)).append(',').append(random.nextInt(rich)).append(';');
        }
        int parsons = 1 + random.nextInt(random.nextInt(10) == 0 ? 4 : 3);
        for (int i = 0; i < parsons; i++) {
            s.append('p').append(random.nextInt(3)).append(',').append(random.nextInt(random.nextBoolean() ? 4 : 21)).append(';');
        }
        if (random.nextBoolean()) {
            s.append('l').append(1 + random.nextInt(99)).append(';');
        }
        return s.toString();
    }

    private int any() {
        int kind = random.nextInt(100);
        if (kind < 55) {
            change();
            return 1;
        }
        return ask();
    }

    private int who() {
        return below(Math.max(1, y.count(0)));
    }

    private int parson() {
        return below(Math.max(1, y.count(1)));
    }

    private void change() {
        int p = parson(), a = who(), b = who(), l = below(8), n;
        boolean were = random.nextBoolean();
        switch (random.nextInt(26)) {
            case 0, 1, 2, 3, 4, 5, 6 -> same("wed " + p + " " + a + " " + b, x.wed(p, a, b), y.wed(p, a, b));
            case 7, 8, 9 -> same("leave " + p, x.leave(p), y.leave(p));
            case 10, 11, 12, 13, 14 -> {
                l = random.nextInt(Math.max(1, y.parson(p, 2)));
                same("fill " + p + " " + l + " " + a + " " + b, x.fill(p, l, a, b), y.fill(p, l, a, b));
            }
            case 15, 16 -> same("strike " + p + " " + l, x.strike(p, l), y.strike(p, l));
            case 17, 18 -> {
                n = random.nextInt(4) > 0 ? 1 + random.nextInt(3) : below(33);
                same("pass " + n, x.pass(n), y.pass(n));
            }
            case 19, 20 -> same("undo", x.undo(), y.undo());
            case 21, 22 -> {
                n = random.nextInt(4) > 0 ? random.nextInt(12) : below(101);
                same("see " + a + " " + b + " " + n, x.see(a, b, n, were), y.see(a, b, n, were));
            }
            case 23 -> {
                if (random.nextInt(3) == 0) same("forget", x.forget(), y.forget());
            }
            case 24 -> same("keep", x.keep(), y.keep());
            default -> {
                if (random.nextInt(3) == 0) same("back", x.back(), y.back());
                else if (random.nextInt(3) == 0) {
                    int letter = below(140);
                    same("write " + letter, x.write(letter), y.write(letter));
                } else if (random.nextInt(12) == 0) same("lay", x.lay(), y.lay());
            }
        }
    }

    private int ask() {
        int p = parson(), a = who(), l = below(8), what = below(8);
        int d = random.nextInt(3) > 0 ? below(40) : below(1001);
        switch (random.nextInt(16)) {
            case 0, 1 -> same("person " + a + " " + what, x.person(a, what), y.person(a, what));
            case 2 -> same("parson " + p + " " + what, x.parson(p, what), y.parson(p, what));
            case 3, 4 -> same("line " + p + " " + l + " " + what, x.line(p, l, what), y.line(p, l, what));
            case 5 -> same("mate " + a + " " + d, x.mate(a, d), y.mate(a, d));
            case 6 -> {
                same("twice", x.twice(), y.twice());
                same("falseOnes", x.falseOnes(), y.falseOnes());
                return 2;
            }
            case 7, 8 -> {
                what = below(3);
                same("date " + p + " " + d + " " + what, x.date(p, d, what), y.date(p, d, what));
            }
            case 9 -> same("look " + (what = below(3)), x.look(what), y.look(what));
            case 10 -> same("can " + a, x.can(a), y.can(a));
            case 11 -> same("trueBy " + (what = below(3)), x.trueBy(what), y.trueBy(what));
            case 12 -> same("hand " + p + " " + l, x.hand(p, l), y.hand(p, l));
            case 13 -> {
                same("child " + a + " " + d, x.child(a, d), y.child(a, d));
                same("fault", x.fault(), y.fault());
                return 2;
            }
            case 14 -> chances();
            default -> same("count " + (what = below(12)), x.count(what), y.count(what));
        }
        return 1;
    }

    private void chances() {
        int n = below(9), tens = below(11), part = below(2), z = below(10000), days = 1 + below(40);
        if (random.nextBoolean()) {
            same("touts " + n + " " + tens + " " + part, x.touts(n, tens, part), y.touts(n, tens, part));
        } else {
            same("gaol " + z + " " + days + " " + part, x.gaol(z, days, part), y.gaol(z, days, part));
        }
    }

    private void same(String call, int got, int want) {
        due.same(call, got, want);
    }
}
