import java.util.function.Supplier;

/** Makes objects for the tests, and tells what one shows. */
final class Play {
    static final int BAD = -1, NO = -2, FULL = -3, NONE = -4;
    static final String FIRST_TEXT = "m0,12,5;m1,40,2;m2,0,50;w0,3,8;w1,30,12;w2,0,60;w0,9,20;p0,2;p1,3;p2,5;l30;";

    private Play() { }

    static void writeAll(PrisonWeddings x, String text) {
        for (int i = 0; i < text.length(); i++) {
            x.write(text.charAt(i));
        }
    }

    static PrisonWeddings written(String text) {
        PrisonWeddings x = new PrisonWeddings();
        writeAll(x, text);
        return x;
    }

    static PrisonWeddings laid(String text) {
        PrisonWeddings x = written(text);
        if (x.lay() < 1) {
            throw new IllegalStateException("can not be laid: " + text);
        }
        return x;
    }

    static int faultOf(String text) {
        return written(text).fault();
    }

    static int layOf(String text) {
        return written(text).lay();
    }

    static PrisonWeddings onDay(PrisonWeddings x, int day) {
        while (x.count(2) < day) {
            x.pass(Math.min(30, day - x.count(2)));
        }
        return x;
    }

    static int paidInAll(PrisonWeddings x) {
        int sum = 0;
        for (int p = 0; p < x.count(1); p++) {
            sum += x.parson(p, 4);
        }
        return sum;
    }

    /** A new object on which something of every kind has been done: SEEN, KEPT, 7 that can be UNDONE, a TEXT with a FAULT. */
    static PrisonWeddings busy() {
        PrisonWeddings x = new PrisonWeddings();
        x.wed(0, 0, 3);
        x.leave(1);
        x.leave(2);
        x.keep();
        x.pass(3);
        x.wed(1, 2, 4);
        x.strike(1, 1);
        x.fill(2, 0, 2, 6);
        x.see(0, 3, 2, true);
        writeAll(x, "m0,1,2;p");
        return x;
    }

    /** All that one shows by calls that change nothing, in fewer than 250 of them. */
    static String picture(PrisonWeddings x) {
        StringBuilder s = new StringBuilder();
        tell(s, "count", 11, x::count);
        tell(s, "fault", 1, what -> x.fault());
        for (int a = 0; a < x.count(0); a++) {
            int person = a;
            tell(s, "person " + a, 7, what -> x.person(person, what));
        }
        for (int p = 0; p < x.count(1); p++) {
            int parson = p;
            tell(s, "parson " + p, 5, what -> x.parson(parson, what));
            tell(s, "date " + p, 2, what -> x.date(parson, 999, what));
            for (int l = 0; l < x.parson(p, 2); l++) {
                int line = l;
                tell(s, "line " + p + " " + l, 6, what -> x.line(parson, line, what));
            }
        }
        tell(s, "bits", 1, what -> x.twice());
        tell(s, "look", 2, x::look);
        tell(s, "true", 2, x::trueBy);
        return s.toString();
    }

    /** What is shown while all that can be is UNDONE, then all that is KEPT taken back. */
    static String past(PrisonWeddings x) {
        StringBuilder s = new StringBuilder();
        while (x.undo() >= 0) {
            s.append(standing(x));
        }
        while (x.back() >= 0) {
            s.append(standing(x));
        }
        return s.toString();
    }

    private static String standing(PrisonWeddings x) {
        StringBuilder s = new StringBuilder();
        for (int a = 0; a < x.count(0); a++) {
            s.append(x.person(a, 3)).append(' ').append(x.person(a, 4)).append(' ');
        }
        return s.append("day ").append(x.count(2)).append(" of two ").append(x.count(4))
            .append(" blank ").append(x.count(6)).append(" paid ").append(paidInAll(x)).append('\n').toString();
    }

    /** A question by a number. */
    interface Question {
        int ask(int what);
    }

    /** A call that changes what stands. */
    interface Change {
        int on(PrisonWeddings x);
    }

    private static void tell(StringBuilder s, String name, int bound, Question question) {
        s.append(name).append(':');
        for (int what = 0; what < bound; what++) {
            s.append(' ').append(question.ask(what));
        }
        s.append('\n');
    }

    /** Where two pictures part, or nothing. */
    static String difference(Supplier<String> one, Supplier<String> other) {
        String[] left = one.get().split("\n"), right = other.get().split("\n");
        for (int i = 0; i < Math.max(left.length, right.length); i++) {
            String a = i < left.length ? left[i] : "nothing", b = i < right.length ? right[i] : "nothing";
            if (!a.equals(b)) {
                return a + " | " + b;
            }
        }
        return "";
    }
}
