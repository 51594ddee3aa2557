import java.math.BigInteger;
import java.util.function.Supplier;

/** The edges of promises 26 to 30: TOUTS, GAOLS, what is KEPT, the counts; and the 512 calls. */
final class GaolEdgesTest {
    private static final int BAD = Play.BAD, NO = Play.NO, FULL = Play.FULL, NONE = Play.NONE;
    private static final int[] OUTSIDE = {-1, -2, 100, -100, Integer.MAX_VALUE, Integer.MIN_VALUE};
    private static final String RICH = "m2,0,60;m2,0,60;w0,0,60;w0,0,60;p2,0;p2,0;p2,0;l99;";

    public static void main(String[] args) {
        Edges.run(GaolEdgesTest.class);
    }

    private static void is(String call, long got, long want) {
        Edges.is(call, got, want);
    }

    // ---- promise 26: touts

    private static void chance(PrisonWeddings x, int n, int tens, int above, int below) {
        is("above, n " + n + " x " + tens, x.touts(n, tens, 0), above);
        is("below, n " + n + " x " + tens, x.touts(n, tens, 1), below);
    }

    /** "n (0 to 8)", "x (0 to 10)", part 0 or 1. */
    static void p26numbersThatAreNoneTold() {
        PrisonWeddings x = new PrisonWeddings();
        for (int out : OUTSIDE) {
            is("n " + out, x.touts(out, 5, 0), BAD);
            is("x " + out, x.touts(1, out, 0), BAD);
            is("part " + out, x.touts(1, 5, out), BAD);
        }
        is("n 9", x.touts(9, 5, 0), BAD);
        is("n 8", x.touts(8, 5, 0), 0);
        is("n 8, below", x.touts(8, 5, 1), 1);
        is("x 11", x.touts(1, 11, 0), BAD);
        is("x 10", x.touts(1, 10, 0), 1);
        is("x 0", x.touts(1, 0, 0), 0);
        is("n 0", x.touts(0, 0, 0), 1);
        is("part 2", x.touts(1, 5, 2), BAD);
    }

    /** No WOMAN at all; no MAN; nobody who can be wed. */
    static void p26nobody() {
        PrisonWeddings men = Play.laid("m0,0,9;p0,0;");
        chance(men, 0, 5, 1, 1);
        chance(men, 1, 5, 0, 1);
        PrisonWeddings women = Play.laid("w0,0,9;w1,0,9;p0,0;");
        chance(women, 0, 10, 1, 1);
        chance(women, 1, 10, 0, 1);
        PrisonWeddings heiress = Play.laid("m0,0,9;m1,0,9;w2,0,9;p0,0;");
        chance(heiress, 1, 10, 0, 1);
    }

    /** "by x (0 to 10) of ten", "in lowest terms" */
    static void p26lowestTerms() {
        int[] above = {0, 1, 1, 3, 2, 1, 3, 7, 4, 9, 1}, below = {1, 10, 5, 10, 5, 2, 5, 10, 5, 10, 1};
        for (int x = 0; x <= 10; x++) {
            chance(Play.laid("m0,0,9;w0,0,9;p0,0;"), 1, x, above[x], below[x]);
        }
    }

    /** "that n or more": fewer, as many, more. */
    static void p26nOrMore() {
        PrisonWeddings x = Play.laid("m0,0,9;m0,0,9;w0,0,9;w0,0,9;p0,0;");
        chance(x, 0, 3, 1, 1);
        chance(x, 1, 3, 51, 100);
        chance(x, 2, 3, 9, 100);
        chance(x, 3, 3, 0, 1);
    }

    /** The most: seven WOMEN for one MAN, and four for four. */
    static void p26theMostWomen() {
        PrisonWeddings seven = Play.laid("m0,0,60;" + "w0,0,0;".repeat(7) + "p0,0;");
        chance(seven, 1, 1, 5217031, 10000000);
        chance(seven, 1, 9, 9999999, 10000000);
        chance(seven, 1, 10, 1, 1);
        chance(seven, 2, 10, 0, 1);
        PrisonWeddings four = Play.laid("m0,0,60;".repeat(4) + "w0,0,0;".repeat(4) + "p0,0;");
        chance(four, 4, 1, 1, 10000);
        chance(four, 4, 10, 1, 1);
        chance(four, 5, 10, 0, 1);
        PrisonWeddings eight = Play.laid("w0,0,9;".repeat(8) + "p0,0;");
        chance(eight, 1, 10, 0, 1);
        chance(eight, 0, 10, 1, 1);
    }

    /** "the lowest first", "to the lowest MAN": the LORD goes to the MAID ahead of the HEIRESS. */
    static void p26theLowestFirst() {
        PrisonWeddings x = Play.laid("m2,0,9;w0,0,9;w2,0,9;p0,0;");
        chance(x, 1, 5, 3, 4);
        chance(x, 2, 5, 0, 1);
        PrisonWeddings lordLast = Play.laid("m0,0,9;m2,0,9;w0,0,9;w2,0,9;p0,0;");
        chance(lordLast, 2, 5, 1, 4);
        PrisonWeddings lordFirst = Play.laid("m2,0,9;m0,0,9;w0,0,9;w2,0,9;p0,0;");
        chance(lordFirst, 2, 10, 0, 1);
        PrisonWeddings heiressFirst = Play.laid("m2,0,9;m0,0,9;w2,0,9;w0,0,9;p0,0;");
        chance(heiressFirst, 2, 10, 1, 1);
    }

    /** "to PARSON 0": his price, not another's; to the COIN. */
    static void p26coins() {
        chance(Play.laid("m0,0,3;w0,0,4;p0,7;p0,0;"), 1, 10, 1, 1);
        chance(Play.laid("m0,0,3;w0,0,4;p0,8;p0,0;"), 1, 10, 0, 1);
        PrisonWeddings richLast = Play.laid("m0,0,3;m0,0,9;w0,0,0;w0,0,4;p0,7;");
        chance(richLast, 1, 10, 1, 1);
        chance(richLast, 2, 10, 1, 1);
        PrisonWeddings poorLast = Play.laid("m0,0,9;m0,0,3;w0,0,4;w0,0,0;p0,7;");
        chance(poorLast, 1, 10, 1, 1);
        chance(poorLast, 2, 10, 0, 1);
    }

    /** "room": two LINES left, one, none. */
    static void p26room() {
        PrisonWeddings x = Play.laid("m0,0,9;m0,0,9;w0,0,9;w0,0,9;p2,0;p2,0;");
        for (int l = 0; l < 6; l++) {
            x.leave(0);
        }
        chance(x, 2, 5, 1, 4);
        x.leave(0);
        chance(x, 2, 5, 0, 1);
        chance(x, 1, 5, 3, 4);
        x.leave(0);
        chance(x, 1, 5, 0, 1);
        chance(x, 0, 5, 1, 1);
    }

    /** "the LAW" */
    static void p26theLaw() {
        PrisonWeddings x = Play.laid("m0,0,9;m0,0,9;w0,0,9;w0,0,9;p0,0;l4;");
        x.wed(0, 0, 2);
        x.pass(3);
        chance(x, 2, 5, 1, 2);
        x.pass(1);
        chance(x, 2, 5, 0, 1);
        chance(x, 1, 5, 1, 1);
    }

    /** "each WOMAN that has no MATE by today", "the lowest MAN without a MATE by today": LINES that do not HOLD leave them so. */
    static void p26linesThatDoNotHold() {
        PrisonWeddings x = Play.laid("m0,0,9;m0,0,9;w0,0,9;w0,0,9;p0,0;p0,0;");
        x.wed(1, 0, 2);
        x.wed(1, 0, 3);
        chance(x, 1, 5, 1, 1);
        chance(x, 2, 5, 1, 2);
        x.wed(1, 1, 3);
        chance(x, 2, 5, 1, 1);
        chance(x, 3, 5, 0, 1);
    }

    /** Who has a MATE is neither brought nor wed again: the first MAN, the first WOMAN. */
    static void p26theFirstOnes() {
        PrisonWeddings woman = Play.laid("w0,0,9;m0,0,9;p0,0;");
        chance(woman, 1, 3, 3, 10);
        PrisonWeddings wedMan = Play.laid("m0,0,9;w0,0,9;w0,0,9;p0,0;");
        wedMan.wed(0, 0, 1);
        chance(wedMan, 1, 0, 1, 1);
        chance(wedMan, 2, 10, 0, 1);
        PrisonWeddings wedWoman = Play.laid("w0,0,9;m0,0,9;m0,0,9;p0,0;");
        wedWoman.wed(0, 0, 1);
        chance(wedWoman, 1, 0, 1, 1);
        chance(wedWoman, 2, 10, 0, 1);
    }

    static void p26itChangesNothing() {
        Edges.changesNothing("touts", Play::busy, x -> x.touts(2, 10, 0), 1);
        Edges.changesNothing("bad n", Play::busy, x -> x.touts(9, 10, 0), BAD);
        Edges.changesNothing("bad x", Play::busy, x -> x.touts(2, 11, 0), BAD);
        Edges.changesNothing("bad part", Play::busy, x -> x.touts(2, 10, 2), BAD);
    }

    // ---- promise 27: gaol

    /** "z (0 to 9999)", "n (1 to 40)", what 0 or 1. */
    static void p27numbersThatAreNoneTold() {
        PrisonWeddings x = new PrisonWeddings();
        for (int out : OUTSIDE) {
            is("z " + out, x.gaol(out == 100 ? 10000 : out, 1, 0), BAD);
            is("n " + out, x.gaol(1, out, 0), BAD);
            is("what " + out, x.gaol(1, 1, out), BAD);
        }
        is("n 0", x.gaol(1, 0, 0), BAD);
        is("n 41", x.gaol(1, 41, 0), BAD);
        is("what 2", x.gaol(1, 1, 2), BAD);
    }

    /** The GAOL as the document tells it, day by day by the calls themselves. */
    private static void isAsPlayed(String name, Supplier<PrisonWeddings> start, int z, int n) {
        PrisonWeddings x = start.get();
        int holds = x.gaol(z, n, 0), coins = x.gaol(z, n, 1);
        int before = Play.paidInAll(x), persons = x.count(0), parsons = x.count(1);
        for (int k = 0; k < n; k++) {
            BigInteger sum = BigInteger.valueOf(7919).multiply(BigInteger.valueOf(z))
                .add(BigInteger.valueOf(6151L * k)).add(BigInteger.ONE);
            int draw = sum.multiply(sum).mod(BigInteger.valueOf(65521)).intValueExact();
            if (x.wed(draw % parsons, draw / 4 % persons, draw / 32 % persons) < 0 && draw / 256 % 2 == 0) {
                x.leave(draw % parsons);
            }
            x.pass(1);
        }
        is(name + ": hold, z " + z + " n " + n, holds, x.count(5));
        is(name + ": coins, z " + z + " n " + n, coins, Play.paidInAll(x) - before);
    }

    static void p27asPlayed() {
        for (int z : new int[] {0, 1, 77, 5000, 9998, 9999}) {
            for (int n : new int[] {1, 2, 39, 40}) {
                isAsPlayed("first text", PrisonWeddings::new, z, n);
                isAsPlayed("busy", Play::busy, z, n);
                isAsPlayed("one parson", () -> Play.laid("m0,0,60;w0,0,60;w1,0,9;m2,0,8;p1,3;l20;"), z, n);
                isAsPlayed("two bold ones", () -> Play.laid("m2,0,60;w2,0,60;m2,0,9;w0,0,9;w0,0,9;p2,1;p2,2;l99;"), z, n);
                isAsPlayed("eight", () -> Play.laid("m2,0,60;w0,0,60;".repeat(4) + "p2,0;p1,0;p0,0;l39;"), z, n);
            }
        }
    }

    /** One PERSON alone: no two. */
    static void p27onePerson() {
        PrisonWeddings x = Play.laid("m0,0,60;p2,5;");
        for (int z = 0; z < 50; z++) {
            is("hold", x.gaol(z, 40, 0), 0);
            is("coins", x.gaol(z, 40, 1), 0);
        }
    }

    /** The LAW, full BOOKS: no WEDDING, no COINS; those that HOLD stay. */
    static void p27theLawAndRoom() {
        PrisonWeddings x = Play.laid(RICH.replace("p2,0;", "p2,1;"));
        x.wed(0, 0, 2);
        Play.onDay(x, 98);
        int most = 0;
        for (int z = 0; z < 60; z++) {
            most = Math.max(most, x.gaol(z, 40, 1));
        }
        is("on the day ahead of the law one wedding at most", most, 1);
        x.pass(1);
        for (int z = 0; z < 20; z++) {
            is("the law: hold", x.gaol(z, 40, 0), 1);
            is("the law: coins", x.gaol(z, 40, 1), 0);
        }
        PrisonWeddings full = Play.laid(RICH.replace("p2,0;", "p2,1;"));
        for (int l = 0; l < 24; l++) {
            full.leave(l / 8);
        }
        for (int z = 0; z < 20; z++) {
            is("full: hold", full.gaol(z, 40, 0), 0);
            is("full: coins", full.gaol(z, 40, 1), 0);
        }
    }

    /** "(nothing changes by it)" */
    static void p27itChangesNothing() {
        Edges.changesNothing("gaol", Play::busy, x -> x.gaol(9999, 40, 0) >= 0 ? 0 : 1, 0);
        Edges.changesNothing("bad z", Play::busy, x -> x.gaol(10000, 40, 0), BAD);
        Edges.changesNothing("bad n", Play::busy, x -> x.gaol(0, 41, 0), BAD);
        Edges.changesNothing("bad what", Play::busy, x -> x.gaol(0, 40, 2), BAD);
        PrisonWeddings x = new PrisonWeddings();
        is("once", x.gaol(5, 40, 1), 31);
        is("again", x.gaol(5, 40, 1), 31);
    }

    // ---- promise 28: keep

    /** "2 at most" */
    static void p28twoAtMost() {
        PrisonWeddings x = new PrisonWeddings();
        is("one", x.keep(), 1);
        is("kept", x.count(9), 1);
        is("two", x.keep(), 2);
        is("kept", x.count(9), 2);
        is("three", x.keep(), FULL);
        is("kept", x.count(9), 2);
        is("back", x.back(), 1);
        is("room again", x.keep(), 2);
        is("full again", x.keep(), FULL);
    }

    static void p28aRefusedOneChangesNothing() {
        Edges.changesNothing("full", () -> {
            PrisonWeddings x = Play.busy();
            x.keep();
            x.pass(1);
            return x;
        }, PrisonWeddings::keep, FULL);
    }

    /** What is KEPT stays what it was, whatever is done and UNDONE then. */
    static void p28keptIsNotTouched() {
        PrisonWeddings x = new PrisonWeddings();
        x.wed(0, 0, 3);
        x.keep();
        x.undo();
        is("undone", x.count(4), 0);
        x.leave(1);
        x.pass(9);
        is("back", x.back(), 0);
        is("the line of two", x.mate(0, 0), 3);
        is("the blank one", x.count(6), 0);
        is("the day", x.count(2), 0);
        is("coins", x.person(0, 3), 3);
    }

    static void p28whatCanBeUndoneStays() {
        PrisonWeddings x = new PrisonWeddings();
        x.pass(1);
        is("keep", x.keep(), 1);
        is("undoable", x.count(8), 1);
        is("undo", x.undo(), 0);
        is("day", x.count(2), 0);
        is("kept still", x.count(9), 1);
    }

    // ---- promise 29: back

    static void p29nothingKept() {
        PrisonWeddings x = new PrisonWeddings();
        is("nothing", x.back(), NO);
        x.keep();
        is("one", x.back(), 0);
        is("nothing again", x.back(), NO);
        Edges.changesNothing("back", () -> {
            PrisonWeddings y = Play.busy();
            y.back();
            y.pass(2);
            y.wed(0, 2, 5);
            return y;
        }, PrisonWeddings::back, NO);
    }

    /** "As KEPT last (it is KEPT no more then)" */
    static void p29theLastOneFirst() {
        PrisonWeddings x = new PrisonWeddings();
        x.pass(1);
        x.keep();
        x.pass(2);
        x.keep();
        x.pass(3);
        is("the last", x.back(), 1);
        is("day", x.count(2), 3);
        is("the first", x.back(), 0);
        is("day", x.count(2), 1);
        is("no more", x.back(), NO);
        is("day still", x.count(2), 1);
    }

    /** "KEPT is all as it stands": days, COINS, what is paid, LINES. */
    static void p29allAsItStood() {
        PrisonWeddings x = Play.busy(), twin = Play.busy();
        x.keep();
        x.pass(4);
        x.fill(1, 0, 2, 4);
        x.strike(0, 0);
        x.wed(2, 2, 5);
        is("back", x.back(), 1);
        for (int n = twin.count(8); n > 0; n--) {
            is("nothing is undone", x.undo(), NO);
        }
        twin.keep();
        twin.back();
        Edges.isSame("as it stood", () -> Play.picture(x), () -> Play.picture(twin));
    }

    /** A LINE has the days again on which it was begun and written, though another stood in its place since. */
    static void p29daysOfALineAsTheyStood() {
        PrisonWeddings x = Play.laid(RICH);
        x.pass(1);
        x.leave(0);
        x.pass(2);
        x.fill(0, 0, 0, 2);
        x.keep();
        for (int i = 0; i < 4; i++) {
            x.undo();
        }
        x.pass(9);
        x.leave(0);
        x.pass(1);
        x.fill(0, 0, 1, 3);
        is("begun", x.line(0, 0, 0), 9);
        is("written", x.line(0, 0, 5), 10);
        is("back", x.back(), 0);
        is("begun as it stood", x.line(0, 0, 0), 1);
        is("written as it stood", x.line(0, 0, 5), 3);
        is("the man", x.line(0, 0, 1), 0);
        is("the woman", x.line(0, 0, 2), 2);
    }

    /** "what is SEEN and THE TEXT (these stay by back())" */
    static void p29seenAndTextStay() {
        PrisonWeddings x = new PrisonWeddings();
        x.see(0, 3, 0, false);
        x.write('m');
        x.keep();
        x.forget();
        x.wipe();
        x.see(0, 3, 1, false);
        x.see(0, 3, 2, false);
        Play.writeAll(x, "l5;");
        is("back", x.back(), 0);
        is("seen", x.count(7), 2);
        is("letters", x.count(10), 3);
        is("fault", x.fault(), NONE);
    }

    /** "behind which nothing can be UNDONE": of what was ahead of it; what comes then can be. */
    static void p29nothingCanBeUndoneBehindIt() {
        PrisonWeddings x = new PrisonWeddings();
        x.pass(1);
        x.keep();
        x.pass(1);
        is("undoable", x.count(8), 2);
        x.back();
        is("undoable then", x.count(8), 0);
        is("undo", x.undo(), NO);
        x.pass(5);
        is("undo of what came then", x.undo(), 0);
        is("day", x.count(2), 1);
    }

    static void p29layForgetsWhatIsKept() {
        PrisonWeddings x = Play.written("m0,0,9;p0,0;");
        x.keep();
        x.keep();
        is("lay", x.lay(), 1);
        is("back", x.back(), NO);
        is("keep", x.keep(), 1);
    }

    // ---- promise 30: count

    static void p30whats() {
        PrisonWeddings x = new PrisonWeddings();
        is("0", x.count(0), 7);
        is("10", x.count(10), 0);
        is("11", x.count(11), BAD);
        for (int what : OUTSIDE) {
            is("what " + what, x.count(what), BAD);
        }
    }

    private static void countsAre(PrisonWeddings x, int... wants) {
        for (int what = 0; what < wants.length; what++) {
            is("count " + what, x.count(what), wants[what]);
        }
    }

    static void p30theFewest() {
        countsAre(Play.laid("m0,0,0;p0,0;l1;"), 1, 1, 0, 1, 0, 0, 0, 0, 0, 0, 15);
        PrisonWeddings x = Play.laid("w0,0,0;p0,0;");
        x.wipe();
        countsAre(x, 1, 1, 0, 60, 0, 0, 0, 0, 0, 0, 0);
    }

    static void p30theMost() {
        PrisonWeddings x = Play.laid("m2,0,60;".repeat(4) + "w0,0,60;".repeat(4) + "p2,0;p2,0;p2,0;l99;");
        for (int l = 0; l < 24; l++) {
            x.leave(l / 8);
        }
        countsAre(x, 8, 3, 0, 99, 0, 0, 24, 0, 8, 0, 83);
        for (int l = 0; l < 24; l++) {
            x.fill(l / 8, l % 8, l % 4, 4 + l % 4);
        }
        for (int i = 0; i < 7; i++) {
            x.see(0, 4, i, true);
            x.keep();
        }
        Play.writeAll(x, "z".repeat(200));
        countsAre(x, 8, 3, 0, 99, 24, 4, 0, 6, 8, 2, 200);
    }

    /** A LINE of nobody is neither of two nor BLANK. */
    static void p30struckIsNeither() {
        PrisonWeddings x = Play.laid(RICH);
        x.leave(0);
        x.wed(0, 0, 2);
        x.wed(0, 0, 3);
        countsAre(x, 4, 3, 0, 99, 2, 1, 1);
        x.strike(0, 1);
        countsAre(x, 4, 3, 0, 99, 1, 1, 1);
        x.strike(0, 2);
        countsAre(x, 4, 3, 0, 99, 0, 0, 1);
    }

    static void p30itChangesNothing() {
        for (int what = -1; what <= 11; what++) {
            int asked = what;
            Edges.changesNothing("count " + what, Play::busy, x -> x.count(asked) >= BAD ? 0 : 1, 0);
        }
    }

    // ---- "An object is used for at most 512 calls after it has been made"

    /** The 512th call is answered as the first one. */
    static void p30fiveHundredAndTwelveCalls() {
        PrisonWeddings x = new PrisonWeddings();
        for (int call = 1; call <= 128; call++) {
            is("wed", x.wed(0, 0, 3), 0);
            is("pass", x.pass(30), 30);
            is("undo", x.undo(), 1);
            is("undo", x.undo(), 0);
        }
        PrisonWeddings y = new PrisonWeddings();
        for (int call = 1; call < 512; call++) {
            y.pass(30);
        }
        is("the 512th", y.pass(30), 15360);
    }

    static void p30eachCall512Times() {
        each(x -> x.write('m'), 200, FULL);
        each(PrisonWeddings::wipe, 0, 0);
        each(PrisonWeddings::fault, 0, NONE);
        each(PrisonWeddings::lay, 0, NO);
        each(PrisonWeddings::undo, 0, NO);
        each(PrisonWeddings::forget, 0, 0);
        each(x -> x.see(0, 3, 0, true), 6, FULL);
        each(PrisonWeddings::keep, 2, FULL);
        each(PrisonWeddings::back, 0, NO);
        each(x -> x.leave(1), 2, NO);
        each(x -> x.leave(2), 8, FULL);
        each(x -> x.wed(2, 2, 5), 8, FULL);
        each(x -> x.gaol(5, 40, 1), 0, 31);
        each(x -> x.touts(3, 5, 1), 0, 16);
    }

    /** From one call on (behind so many) all up to the 512th answer the same. */
    private static void each(Play.Change call, int ahead, int then) {
        PrisonWeddings x = new PrisonWeddings();
        for (int n = 0; n < ahead; n++) {
            is("call " + n + " is not refused", call.on(x) >= 0 ? 0 : 1, 0);
        }
        for (int n = ahead; n < 512; n++) {
            is("call " + n, call.on(x), then);
        }
    }
}
