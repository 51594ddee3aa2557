import java.util.function.Supplier;

/** The edges of promises 21 to 25: what is SEEN, TRUE, HAND, CHILD. */
final class SeenEdgesTest {
    private static final int BAD = Play.BAD, NO = Play.NO, FULL = Play.FULL, NONE = Play.NONE;
    private static final int[] OUTSIDE = {-1, 8, 100, -100, Integer.MAX_VALUE, Integer.MIN_VALUE};
    private static final String RICH = "m2,0,60;m2,0,60;w0,0,60;w0,0,60;p2,0;p2,0;p2,0;l99;";

    public static void main(String[] args) {
        Edges.run(SeenEdgesTest.class);
    }

    private static void is(String call, long got, long want) {
        Edges.is(call, got, want);
    }

    // ---- promise 21: see

    static void p21persons() {
        PrisonWeddings x = new PrisonWeddings();
        for (int a : OUTSIDE) {
            is("first " + a, x.see(a, 3, 0, true), BAD);
            is("second " + a, x.see(0, a, 0, false), BAD);
        }
        is("7 of 7", x.see(0, 7, 0, true), BAD);
        is("6 of 7", x.see(0, 6, 0, true), 1);
        is("0 behind 6", x.see(6, 0, 0, true), 2);
    }

    /** "BAD (alike, too)" */
    static void p21alike() {
        PrisonWeddings x = new PrisonWeddings();
        for (int a = 0; a < 7; a++) {
            is("alike " + a, x.see(a, a, 0, true), BAD);
            is("alike, were not " + a, x.see(a, a, 0, false), BAD);
        }
        is("nothing is seen", x.count(7), 0);
    }

    /** "by a day (0 to 99)" */
    static void p21days() {
        PrisonWeddings x = new PrisonWeddings();
        is("-1", x.see(0, 3, -1, true), BAD);
        is("100", x.see(0, 3, 100, true), BAD);
        is("999", x.see(0, 3, 999, false), BAD);
        is("far", x.see(0, 3, Integer.MAX_VALUE, true), BAD);
        is("far below", x.see(0, 3, Integer.MIN_VALUE, true), BAD);
        is("0", x.see(0, 3, 0, true), 1);
        is("99", x.see(0, 3, 99, true), 2);
    }

    /** "6 at most" */
    static void p21sixAtMost() {
        PrisonWeddings x = new PrisonWeddings();
        for (int n = 1; n <= 6; n++) {
            is("seen", x.see(0, 3, n, n % 2 == 0), n);
            is("so many", x.count(7), n);
        }
        is("a seventh", x.see(0, 3, 7, true), FULL);
        is("again", x.see(0, 3, 7, true), FULL);
        is("six", x.count(7), 6);
        is("forget", x.forget(), 6);
        is("room again", x.see(0, 3, 7, true), 1);
    }

    static void p21badAheadOfFull() {
        PrisonWeddings x = sixSeen();
        is("full", x.see(0, 3, 99, true), FULL);
        is("alike", x.see(3, 3, 0, true), BAD);
        is("bad day", x.see(0, 3, 100, true), BAD);
        is("bad person", x.see(0, 7, 0, true), BAD);
    }

    private static PrisonWeddings sixSeen() {
        PrisonWeddings x = Play.busy();
        for (int i = 0; i < 5; i++) {
            x.see(2, 6, i, false);
        }
        return x;
    }

    static void p21aRefusedOneChangesNothing() {
        Edges.changesNothing("bad person", Play::busy, x -> x.see(0, 7, 0, true), BAD);
        Edges.changesNothing("alike", Play::busy, x -> x.see(0, 0, 0, true), BAD);
        Edges.changesNothing("bad day", Play::busy, x -> x.see(0, 4, 100, true), BAD);
        Edges.changesNothing("full", SeenEdgesTest::sixSeen, x -> x.see(0, 4, 0, true), FULL);
    }

    /** What is SEEN stays when all else is UNDONE, or put back. */
    static void p21seenStays() {
        PrisonWeddings x = new PrisonWeddings();
        x.keep();
        x.wed(0, 0, 3);
        x.see(0, 3, 0, true);
        x.undo();
        is("behind undo", x.count(7), 1);
        is("it is not so", x.trueBy(0), 0);
        x.back();
        is("behind back", x.count(7), 1);
    }

    // ---- promise 22: forget

    static void p22noneOneSix() {
        PrisonWeddings x = new PrisonWeddings();
        is("none", x.forget(), 0);
        x.see(0, 3, 0, true);
        is("one", x.forget(), 1);
        is("none again", x.forget(), 0);
        is("six", sixSeen().forget(), 6);
        is("nothing is seen", x.trueBy(0), 256);
    }

    static void p22allElseStays() {
        PrisonWeddings x = Play.busy(), twin = Play.busy();
        is("forget", x.forget(), 1);
        is("seen anew", x.see(0, 3, 2, true), 1);
        Edges.isSame("behind forget", () -> Play.picture(x), () -> Play.picture(twin));
        Edges.isSame("what was ahead of forget", () -> Play.past(x), () -> Play.past(twin));
    }

    // ---- promise 23: trueBy

    static void p23whats() {
        PrisonWeddings x = new PrisonWeddings();
        is("0", x.trueBy(0), 256);
        is("1", x.trueBy(1), NONE);
        is("2", x.trueBy(2), BAD);
        for (int what : OUTSIDE) {
            is("what " + what, x.trueBy(what), BAD);
        }
    }

    private static void trueIs(PrisonWeddings x, int many, int first) {
        is("how many", x.trueBy(0), many);
        is("the first", x.trueBy(1), first);
    }

    /** No LINE of two, nothing SEEN. */
    static void p23noLineNothingSeen() {
        PrisonWeddings x = Play.laid(RICH);
        trueIs(x, 256, NONE);
        x.leave(0);
        trueIs(x, 256, NONE);
        x.see(0, 2, 0, true);
        trueIs(x, 0, NONE);
        x.forget();
        x.see(0, 2, 0, false);
        trueIs(x, 256, NONE);
    }

    /** "(256 more, if it is so as it is)": with and without. */
    static void p23asItIsAndWithoutOne() {
        PrisonWeddings x = Play.laid(RICH);
        x.wed(0, 0, 2);
        trueIs(x, 257, 0);
        x.see(0, 2, 0, true);
        trueIs(x, 256, NONE);
        x.forget();
        x.see(2, 0, 0, false);
        trueIs(x, 1, 0);
        x.see(0, 2, 0, true);
        trueIs(x, 0, NONE);
    }

    /** "were each alone STRUCK": not two at one time. */
    static void p23eachAlone() {
        PrisonWeddings x = Play.laid(RICH);
        x.wed(0, 0, 2);
        x.wed(1, 0, 2);
        x.see(0, 2, 50, false);
        trueIs(x, 0, NONE);
        x.strike(0, 0);
        trueIs(x, 1, 10);
    }

    /** "by a day": begun on it, a day behind it. */
    static void p23byADay() {
        PrisonWeddings x = Play.onDay(Play.laid(RICH), 98);
        x.wed(0, 0, 2);
        x.see(0, 2, 97, true);
        is("the day ahead, were", x.trueBy(0), 0);
        x.forget();
        x.see(0, 2, 97, false);
        is("the day ahead, were not", x.trueBy(0), 256 + 1);
        x.forget();
        x.see(0, 2, 98, true);
        is("on that day, were", x.trueBy(0), 256);
        x.see(0, 2, 99, true);
        is("the day behind, were", x.trueBy(0), 256);
        x.see(0, 2, 98, false);
        is("both can not be", x.trueBy(0), 0);
    }

    /** "all that is SEEN": the last of six alone is not so. */
    static void p23allOfSix() {
        PrisonWeddings x = Play.laid(RICH);
        x.wed(0, 0, 2);
        for (int n = 1; n <= 5; n++) {
            x.see(0, 2, n, true);
        }
        is("five are so", x.trueBy(0), 256);
        x.see(1, 3, 0, true);
        is("the sixth is not", x.trueBy(0), 0);
        x.wed(2, 1, 3);
        is("now it is", x.trueBy(0), 256);
        x.wed(2, 1, 2);
        trueIs(x, 256 + 1, 21);
    }

    /** "the first (by PARSON, then LINE), as 10 times the PARSON and the LINE": not by day. */
    static void p23theFirst() {
        PrisonWeddings x = Play.laid(RICH);
        x.leave(1);
        x.wed(2, 0, 2);
        trueIs(x, 256 + 1, 20);
        x.pass(1);
        x.wed(1, 0, 2);
        trueIs(x, 256 + 2, 11);
        x.leave(0);
        for (int l = 1; l < 7; l++) {
            x.leave(0);
        }
        x.pass(1);
        x.wed(0, 0, 2);
        trueIs(x, 256 + 3, 7);
        x.fill(0, 0, 0, 2);
        trueIs(x, 256 + 4, 0);
    }

    static void p23lineTwentySeven() {
        PrisonWeddings x = Play.laid(RICH);
        for (int l = 0; l < 7; l++) {
            x.leave(2);
        }
        x.wed(2, 0, 2);
        trueIs(x, 256 + 1, 27);
    }

    /** 24 LINES of two are the most. */
    static void p23twentyFour() {
        PrisonWeddings x = Play.laid(RICH);
        for (int l = 0; l < 24; l++) {
            x.wed(l / 8, 0, 2);
        }
        trueIs(x, 256 + 24, 0);
        x.see(0, 2, 0, true);
        trueIs(x, 256 + 24, 0);
        x.see(0, 3, 0, true);
        trueIs(x, 0, NONE);
        x.forget();
        x.see(0, 2, 0, false);
        trueIs(x, 0, NONE);
    }

    /** A BLANK LINE and one of nobody are not of two. */
    static void p23linesOfTwoAlone() {
        PrisonWeddings x = Play.laid(RICH);
        x.leave(0);
        x.wed(0, 0, 2);
        x.wed(0, 0, 3);
        x.strike(0, 1);
        trueIs(x, 256 + 1, 2);
    }

    /** STRUCK, a LINE lets another one HOLD. */
    static void p23anotherHoldsThen() {
        PrisonWeddings x = Play.laid(RICH);
        x.wed(0, 0, 2);
        x.wed(1, 1, 2);
        x.see(1, 2, 0, true);
        trueIs(x, 1, 0);
        is("nothing is struck by it", x.count(4), 2);
        is("holds as it did", x.line(0, 0, 4), 1);
    }

    // ---- promise 24: hand

    static void p24linesThatThereAre() {
        PrisonWeddings x = Play.laid(RICH);
        is("no line as yet", x.hand(0, 0), BAD);
        for (int l = 0; l < 8; l++) {
            x.wed(0, 0, 2);
        }
        is("the last", x.hand(0, 7), 7);
        for (int out : OUTSIDE) {
            is("line " + out, x.hand(0, out), BAD);
            is("parson " + out, x.hand(out, 0), BAD);
        }
        is("parson 3", x.hand(3, 0), BAD);
        is("another's book", x.hand(1, 0), BAD);
        PrisonWeddings one = Play.laid("m0,0,9;w0,0,9;p0,0;");
        one.wed(0, 0, 1);
        is("the second of one", one.hand(1, 0), BAD);
        is("the first", one.hand(0, 0), 7);
    }

    /** "NO: BLANK, of nobody" */
    static void p24blankOrOfNobody() {
        PrisonWeddings x = Play.laid(RICH);
        x.leave(0);
        is("blank", x.hand(0, 0), NO);
        x.fill(0, 0, 0, 2);
        is("of two", x.hand(0, 0), 7);
        x.strike(0, 0);
        is("of nobody", x.hand(0, 0), NO);
    }

    /** "all, if that was on the day on which it was begun, else SLY, BOLD ones" */
    static void p24onItsDayOrBehindIt() {
        PrisonWeddings x = Play.laid("m2,0,60;w0,0,60;p0,0;p1,0;p2,0;l50;");
        x.leave(1);
        x.leave(1);
        x.leave(2);
        x.leave(2);
        x.fill(1, 0, 0, 1);
        x.fill(2, 0, 0, 1);
        is("a sly one's, on its day", x.hand(1, 0), 7);
        is("a bold one's, on its day", x.hand(2, 0), 7);
        x.pass(1);
        x.fill(1, 1, 0, 1);
        x.fill(2, 1, 0, 1);
        is("a sly one's, a day behind", x.hand(1, 1), 6);
        is("a bold one's, a day behind", x.hand(2, 1), 6);
        x.wed(0, 0, 1);
        is("a wedding of today", x.hand(0, 0), 7);
        x.pass(30);
        is("a wedding of old", x.hand(0, 0), 7);
        is("filled on its day, of old", x.hand(1, 0), 7);
    }

    // ---- promise 25: child

    /** "(no WOMAN, too)" */
    static void p25womenAlone() {
        PrisonWeddings x = new PrisonWeddings();
        for (int a = 0; a < 7; a++) {
            is("person " + a, x.child(a, 9), a < 3 ? BAD : 0);
        }
        is("7 of 7", x.child(7, 9), BAD);
        for (int a : OUTSIDE) {
            is("person " + a, x.child(a, 9), BAD);
        }
    }

    /** "born on day d (0 to 999)" */
    static void p25days() {
        PrisonWeddings x = new PrisonWeddings();
        x.wed(0, 0, 3);
        is("-1", x.child(3, -1), BAD);
        is("0", x.child(3, 0), 0);
        is("999", x.child(3, 999), 1);
        is("1000", x.child(3, 1000), BAD);
        is("1008", x.child(3, 1008), BAD);
        is("far", x.child(3, Integer.MAX_VALUE), BAD);
        is("far below", x.child(3, Integer.MIN_VALUE), BAD);
        is("a man and a bad day", x.child(0, 1000), BAD);
    }

    /** "if she has a MATE by day d less 9": on day 0, on a later one; no day is ahead of day 0. */
    static void p25nineDays() {
        PrisonWeddings x = new PrisonWeddings();
        x.wed(0, 0, 3);
        is("day 8", x.child(3, 8), 0);
        is("day 9", x.child(3, 9), 1);
        is("day 10", x.child(3, 10), 1);
        PrisonWeddings y = Play.onDay(new PrisonWeddings(), 29);
        y.wed(0, 0, 3);
        is("day 37", y.child(3, 37), 0);
        is("day 38", y.child(3, 38), 1);
    }

    static void p25aBlankOneMakesItLawful() {
        PrisonWeddings x = new PrisonWeddings();
        x.leave(2);
        x.pass(9);
        is("without a mate", x.child(6, 9), 0);
        x.fill(2, 0, 2, 6);
        is("with one of day 0", x.child(6, 9), 1);
        is("by the day ahead", x.child(6, 8), 0);
        x.strike(2, 0);
        is("struck", x.child(6, 999), 0);
    }

    static void p25lineThatDoesNotHold() {
        PrisonWeddings x = new PrisonWeddings();
        x.wed(0, 0, 3);
        x.wed(0, 0, 6);
        is("his first", x.child(3, 9), 1);
        is("his second", x.child(6, 999), 0);
    }

    // ---- these calls change nothing, answered or refused

    static void p23to25changeNothing() {
        Supplier<PrisonWeddings> busy = Play::busy;
        for (int what : new int[] {-1, 0, 1, 2, 3, 8, 999, 1000}) {
            Edges.changesNothing("questions by " + what, busy, x -> {
                x.trueBy(what);
                x.hand(what, 0);
                x.hand(1, what);
                x.child(what, 9);
                x.child(3, what);
                return 0;
            }, 0);
        }
    }
}
