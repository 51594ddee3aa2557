/** The edges of promises 15 to 20: MATES, TWICE, FALSE, DATE, LOOK, CAN. */
final class HoldEdgesTest {
    private static final int BAD = Play.BAD, NONE = Play.NONE;
    private static final int[] OUTSIDE = {-1, 8, 100, -100, Integer.MAX_VALUE, Integer.MIN_VALUE};
    /** Four LORDS 0 to 3, four MAIDS 4 to 7, three BOLD PARSONS for nothing. */
    private static final String FOUR_AND_FOUR = "m2,0,60;m2,0,60;m2,0,60;m2,0,60;"
        + "w0,0,60;w0,0,60;w0,0,60;w0,0,60;p2,0;p2,0;p2,0;";

    public static void main(String[] args) {
        Edges.run(HoldEdgesTest.class);
    }

    private static void is(String call, long got, long want) {
        Edges.is(call, got, want);
    }

    private static PrisonWeddings four() {
        return Play.laid(FOUR_AND_FOUR);
    }

    // ---- which LINES HOLD, promises 8, 15

    /** "gone through by the day on which they were begun, then by PARSON, then by LINE": the day goes ahead of the PARSON. */
    static void p15dayAheadOfParson() {
        PrisonWeddings x = four();
        x.wed(2, 0, 4);
        x.pass(1);
        x.wed(0, 1, 4);
        is("of day 0", x.mate(4, 999), 0);
        is("of day 1", x.line(0, 0, 4), 0);
    }

    static void p15parsonAheadOfLine() {
        PrisonWeddings x = four();
        x.wed(1, 0, 4);
        x.wed(0, 2, 5);
        x.wed(0, 1, 4);
        is("line 1 of parson 0", x.line(0, 1, 4), 1);
        is("line 0 of parson 1", x.line(1, 0, 4), 0);
        is("mate", x.mate(4, 0), 1);
    }

    static void p15lineAheadOfLine() {
        PrisonWeddings x = four();
        x.leave(0);
        x.wed(0, 0, 4);
        is("line 1 alone", x.mate(4, 0), 0);
        x.fill(0, 0, 1, 4);
        is("line 0", x.mate(4, 0), 1);
        is("line 1", x.line(0, 1, 4), 0);
    }

    /** It is the day on which a LINE was begun that counts, not the day on which it was written. */
    static void p15begunNotWritten() {
        PrisonWeddings x = four();
        x.leave(2);
        x.pass(1);
        x.wed(0, 0, 4);
        is("as it was", x.mate(4, 1), 0);
        x.pass(1);
        x.fill(2, 0, 1, 4);
        is("by day 0", x.mate(4, 0), 1);
        is("by today", x.person(4, 4), 1);
        is("he has none", x.person(0, 4), NONE);
    }

    /** "if neither of its two is in one that HOLDS ahead of it": one that does not HOLD takes nobody. */
    static void p15neitherInOneThatHolds() {
        PrisonWeddings x = four();
        x.wed(0, 0, 4);
        x.wed(0, 1, 4);
        x.wed(0, 1, 5);
        x.wed(0, 0, 6);
        int[] holds = {1, 0, 1, 0};
        for (int l = 0; l < 4; l++) {
            is("line " + l, x.line(0, l, 4), holds[l]);
        }
        x.strike(0, 0);
        int[] then = {0, 1, 0, 1};
        for (int l = 0; l < 4; l++) {
            is("line then " + l, x.line(0, l, 4), then[l]);
        }
    }

    static void p15theSameTwoTwice() {
        PrisonWeddings x = four();
        x.wed(1, 0, 4);
        x.wed(0, 0, 4);
        is("the one ahead", x.line(0, 0, 4), 1);
        is("the one behind", x.line(1, 0, 4), 0);
        is("one holds", x.count(5), 1);
    }

    /** A LINE of nobody, a BLANK one do not HOLD. */
    static void p15ofTwoAlone() {
        PrisonWeddings x = four();
        x.leave(0);
        x.wed(0, 0, 4);
        x.strike(0, 1);
        is("blank", x.line(0, 0, 4), 0);
        is("struck", x.line(0, 1, 4), 0);
        is("none hold", x.count(5), 0);
        is("mate", x.mate(0, 999), NONE);
    }

    /** All 24 LINES are gone through: the last one by day, PARSON and LINE HOLDS, if it is the first of its two. */
    static void p15theLastOfTwentyFour() {
        PrisonWeddings x = four();
        for (int l = 0; l < 23; l++) {
            x.wed(l / 8, 0, 4);
        }
        is("one holds", x.count(5), 1);
        is("the last line", x.wed(2, 3, 7), 7);
        is("two hold", x.count(5), 2);
        is("it does", x.line(2, 7, 4), 1);
        is("mate", x.mate(7, 0), 3);
        is("true without the first, too", x.trueBy(0), 256 + 24);
        x.strike(0, 0);
        is("two hold still", x.count(5), 2);
    }

    // ---- promise 15: mate

    /** "a day (0 to 999)" */
    static void p15days() {
        PrisonWeddings x = new PrisonWeddings();
        x.wed(0, 0, 3);
        is("-1", x.mate(0, -1), BAD);
        is("0", x.mate(0, 0), 3);
        is("999", x.mate(0, 999), 3);
        is("1000", x.mate(0, 1000), BAD);
        is("far", x.mate(0, Integer.MAX_VALUE), BAD);
        is("far below", x.mate(0, Integer.MIN_VALUE), BAD);
    }

    static void p15persons() {
        PrisonWeddings x = four();
        x.wed(0, 3, 7);
        is("0", x.mate(0, 0), NONE);
        is("7", x.mate(7, 0), 3);
        for (int a : OUTSIDE) {
            is("person " + a, x.mate(a, 0), BAD);
        }
        PrisonWeddings seven = new PrisonWeddings();
        is("6 of 7", seven.mate(6, 0), NONE);
        is("7 of 7", seven.mate(7, 0), BAD);
    }

    /** "begun on that day or ahead of it; none" */
    static void p15onThatDayOrAheadOfIt() {
        for (int day : new int[] {1, 29, 98}) {
            PrisonWeddings x = Play.onDay(Play.laid("m0,0,9;w0,0,9;p0,0;l99;"), day);
            x.wed(0, 0, 1);
            is("the day ahead", x.mate(0, day - 1), NONE);
            is("on that day", x.mate(0, day), 1);
            is("the day behind", x.mate(1, day + 1), 0);
        }
    }

    static void p15badAheadOfNone() {
        PrisonWeddings x = new PrisonWeddings();
        is("none", x.mate(0, 5), NONE);
        is("bad day", x.mate(0, 1000), BAD);
        is("bad person", x.mate(-1, 5), BAD);
    }

    // ---- promise 16: twice

    /** "in two LINES or more": none, one, two, three. */
    static void p16noneOneTwoThree() {
        PrisonWeddings x = four();
        is("no line", x.twice(), 0);
        x.wed(0, 0, 4);
        is("one", x.twice(), 0);
        x.wed(0, 0, 5);
        is("he in two", x.twice(), 1);
        x.wed(0, 0, 6);
        is("he in three", x.twice(), 1);
        x.wed(1, 1, 6);
        is("she in two, in two books", x.twice(), 1 + 64);
    }

    static void p16theSameTwo() {
        PrisonWeddings x = four();
        x.wed(0, 3, 7);
        x.wed(2, 3, 7);
        is("both", x.twice(), 8 + 128);
        x.strike(2, 0);
        is("struck", x.twice(), 0);
        x.undo();
        is("undone", x.twice(), 8 + 128);
    }

    static void p16blankOnesDoNotCount() {
        PrisonWeddings x = four();
        x.leave(0);
        x.leave(0);
        is("blank", x.twice(), 0);
        x.fill(0, 0, 0, 4);
        is("one filled", x.twice(), 0);
        x.fill(0, 1, 0, 4);
        is("both filled", x.twice(), 1 + 16);
    }

    static void p16allEight() {
        PrisonWeddings x = four();
        for (int a = 0; a < 4; a++) {
            x.wed(0, a, 4 + a);
            x.wed(1, a, 7 - a);
        }
        is("all", x.twice(), 255);
    }

    // ---- promise 17: falseOnes

    static void p17noneAndOne() {
        PrisonWeddings x = four();
        is("no line", x.falseOnes(), 0);
        x.leave(0);
        is("a blank one", x.falseOnes(), 0);
        x.wed(0, 0, 4);
        is("one line", x.falseOnes(), 0);
        x.wed(0, 1, 5);
        is("two apart", x.falseOnes(), 0);
        x.wed(0, 0, 4);
        is("the same two again", x.falseOnes(), 1);
    }

    /** "the fewest LINES of two to be STRUCK": fewer than those that do not HOLD. */
    static void p17fewerThanThoseThatDoNotHold() {
        PrisonWeddings x = four();
        x.wed(0, 0, 4);
        x.wed(0, 0, 5);
        x.wed(0, 1, 4);
        is("hold", x.count(5), 1);
        is("the first is false", x.falseOnes(), 1);
        x.wed(0, 1, 6);
        x.wed(0, 2, 5);
        is("two more", x.falseOnes(), 2);
    }

    static void p17allFourOfACircle() {
        PrisonWeddings x = four();
        for (int a = 0; a < 4; a++) {
            x.wed(0, a, 4 + a);
            x.wed(1, a, 4 + (a + 1) % 4);
        }
        is("every second one", x.falseOnes(), 4);
        x.strike(0, 0);
        is("one struck", x.falseOnes(), 3);
        x.strike(0, 2);
        is("two struck", x.falseOnes(), 2);
    }

    static void p17twentyFour() {
        PrisonWeddings x = four();
        for (int l = 0; l < 24; l++) {
            x.wed(l / 8, 0, 4);
        }
        is("all but one", x.falseOnes(), 23);
        is("struck", x.strike(1, 3), 1);
        is("all but one still", x.falseOnes(), 22);
    }

    static void p17oneManOfSeven() {
        PrisonWeddings x = Play.laid("m2,0,60;" + "w0,0,60;".repeat(7) + "p0,0;");
        for (int b = 1; b <= 7; b++) {
            x.wed(0, 0, b);
            is("lines " + b, x.falseOnes(), b - 1);
        }
    }

    static void p17oneWomanOfSeven() {
        PrisonWeddings x = Play.laid("m0,0,60;".repeat(7) + "w0,0,60;p0,0;");
        for (int a = 0; a < 7; a++) {
            x.wed(0, a, 7);
            is("lines " + (a + 1), x.falseOnes(), a);
        }
    }

    /** WOMEN ahead of MEN: the last PERSON a MAN. */
    static void p17womenAheadOfMen() {
        PrisonWeddings x = Play.laid("w0,0,60;".repeat(7) + "m0,0,60;p0,0;");
        for (int b = 0; b < 7; b++) {
            x.wed(0, b, 7);
            is("lines " + (b + 1), x.falseOnes(), b);
        }
    }

    /** STRUCK LINES are not of two: asked ahead of striking and behind it. */
    static void p17struckOnesAreNotOfTwo() {
        PrisonWeddings x = four();
        x.wed(0, 0, 4);
        x.wed(0, 1, 5);
        x.wed(0, 1, 6);
        is("three lines", x.falseOnes(), 1);
        x.strike(0, 0);
        is("two of one man", x.falseOnes(), 1);
        x.strike(0, 1);
        is("one", x.falseOnes(), 0);
        x.strike(0, 2);
        is("none", x.falseOnes(), 0);
    }

    // ---- promise 18: date

    static void p18numbersThatAreNoneTold() {
        PrisonWeddings x = new PrisonWeddings();
        for (int out : OUTSIDE) {
            is("parson " + out, x.date(out, 0, 0), BAD);
            is("what " + out, x.date(0, 0, out), BAD);
        }
        is("parson 3", x.date(3, 0, 0), BAD);
        is("what 2", x.date(0, 0, 2), BAD);
        is("parson 2, what 1", x.date(2, 0, 1), 8);
        is("the second of one", Play.laid("m0,0,9;p0,1;").date(1, 0, 0), BAD);
    }

    /** "a day d (0 to 999)" */
    static void p18days() {
        PrisonWeddings x = new PrisonWeddings();
        is("-1", x.date(1, -1, 0), BAD);
        is("0", x.date(1, 0, 0), 3);
        is("999", x.date(1, 999, 0), 3);
        is("1000", x.date(1, 1000, 0), BAD);
        is("far", x.date(1, Integer.MAX_VALUE, 0), BAD);
        is("far below", x.date(1, Integer.MIN_VALUE, 0), BAD);
    }

    private static void dateIs(PrisonWeddings x, int p, int d, int coins, int line) {
        is("date " + p + " " + d + " coins", x.date(p, d, 0), coins);
        is("date " + p + " " + d + " line", x.date(p, d, 1), line);
    }

    /** "begun on day d or ahead of it": the next one is begun today. */
    static void p18theNextOneIsBegunToday() {
        PrisonWeddings x = new PrisonWeddings();
        dateIs(x, 0, 0, 2, 8);
        x.pass(5);
        dateIs(x, 0, 4, NONE, NONE);
        dateIs(x, 0, 5, 2, 8);
        dateIs(x, 0, 6, 2, 8);
    }

    /** "a BLANK one" begun on day d or ahead of it. */
    static void p18aBlankOne() {
        PrisonWeddings x = new PrisonWeddings();
        x.pass(2);
        x.leave(1);
        x.pass(3);
        dateIs(x, 1, 1, NONE, NONE);
        dateIs(x, 1, 2, 6, 0);
        dateIs(x, 1, 4, 6, 0);
        dateIs(x, 1, 5, 3, 8);
    }

    static void p18blankOnesAlone() {
        PrisonWeddings x = new PrisonWeddings();
        x.leave(1);
        x.leave(1);
        x.wed(1, 0, 3);
        x.pass(1);
        dateIs(x, 1, 0, 4, 0);
        x.fill(1, 0, 2, 6);
        dateIs(x, 1, 0, 4, 1);
        x.fill(1, 1, 2, 6);
        dateIs(x, 1, 0, NONE, NONE);
        x.strike(1, 0);
        dateIs(x, 1, 0, NONE, NONE);
        dateIs(x, 1, 1, 3, 8);
        dateIs(x, 2, 0, NONE, NONE);
    }

    /** "the fewest COINS", "which LINE, of several the lowest" */
    static void p18fewestThenLowest() {
        PrisonWeddings x = Play.laid("m0,0,9;w0,0,9;p1,3;p2,3;l9;");
        x.leave(0);
        x.leave(1);
        dateIs(x, 0, 0, 3, 0);
        x.pass(1);
        dateIs(x, 1, 0, 3, 0);
        dateIs(x, 1, 1, 3, 0);
        dateIs(x, 0, 0, 4, 0);
        dateIs(x, 0, 1, 3, 8);
        x.leave(0);
        x.leave(1);
        dateIs(x, 0, 1, 3, 1);
        dateIs(x, 1, 1, 3, 0);
        x.pass(1);
        dateIs(x, 1, 1, 3, 1);
        dateIs(x, 1, 0, 4, 0);
        x.pass(1);
        dateIs(x, 1, 1, 4, 0);
        dateIs(x, 1, 2, 4, 0);
        dateIs(x, 1, 3, 3, 8);
    }

    /** From the day of the LAW on no WEDDING; BLANK ones still. */
    static void p18theLaw() {
        PrisonWeddings x = Play.laid("m0,0,9;w0,0,9;p1,3;l4;");
        x.leave(0);
        x.pass(3);
        dateIs(x, 0, 3, 3, 8);
        x.pass(1);
        dateIs(x, 0, 4, 7, 0);
        dateIs(x, 0, 999, 7, 0);
        PrisonWeddings none = Play.laid("m0,0,9;w0,0,9;p1,3;l4;");
        Play.onDay(none, 3);
        dateIs(none, 0, 999, 3, 8);
        none.pass(1);
        dateIs(none, 0, 999, NONE, NONE);
    }

    /** A full BOOK has no next one. */
    static void p18room() {
        PrisonWeddings x = Play.laid("m0,0,60;w0,0,60;p2,1;l9;");
        x.leave(0);
        for (int l = 1; l < 7; l++) {
            x.wed(0, 0, 1);
        }
        x.pass(2);
        dateIs(x, 0, 2, 1, 8);
        x.wed(0, 0, 1);
        dateIs(x, 0, 2, 2, 0);
        x.fill(0, 0, 0, 1);
        dateIs(x, 0, 2, NONE, NONE);
    }

    /** Prices 0 and 20, and what long waiting adds. */
    static void p18coins() {
        PrisonWeddings x = Play.laid("m0,0,9;w0,0,9;p1,0;p2,20;p1,20;l99;");
        dateIs(x, 0, 0, 0, 8);
        dateIs(x, 1, 0, 20, 8);
        for (int p = 0; p < 3; p++) {
            x.leave(p);
        }
        dateIs(x, 0, 0, 0, 0);
        Play.onDay(x, 1001);
        dateIs(x, 0, 0, 1001, 0);
        dateIs(x, 1, 999, 520, 0);
        dateIs(x, 2, 999, 1021, 0);
    }

    static void p18badAheadOfNone() {
        PrisonWeddings x = new PrisonWeddings();
        x.pass(1);
        dateIs(x, 0, 0, NONE, NONE);
        is("what 2", x.date(0, 0, 2), BAD);
        is("day -1", x.date(0, -1, 0), BAD);
        is("parson 3", x.date(3, 0, 1), BAD);
    }

    // ---- promise 19: look

    static void p19whats() {
        PrisonWeddings x = new PrisonWeddings();
        is("0", x.look(0), 0);
        is("1", x.look(1), 0);
        is("2", x.look(2), BAD);
        for (int what : OUTSIDE) {
            is("what " + what, x.look(what), BAD);
        }
    }

    private static void lookIs(PrisonWeddings x, int many, int bits) {
        is("how few", x.look(0), many);
        is("which", x.look(1), bits);
    }

    /** "BOOKS in which LINES are that HOLD": none to three. */
    static void p19noneToThree() {
        PrisonWeddings x = four();
        lookIs(x, 0, 0);
        x.leave(0);
        lookIs(x, 0, 0);
        x.wed(2, 0, 4);
        lookIs(x, 1, 4);
        x.wed(2, 1, 5);
        lookIs(x, 1, 4);
        x.wed(1, 2, 6);
        lookIs(x, 2, 6);
        x.wed(0, 3, 7);
        lookIs(x, 3, 7);
        x.strike(1, 0);
        lookIs(x, 2, 5);
    }

    /** A BOOK with LINES that do not HOLD alone is none of them. */
    static void p19linesThatDoNotHold() {
        PrisonWeddings x = four();
        x.wed(0, 0, 4);
        x.wed(1, 0, 5);
        lookIs(x, 1, 1);
        x.strike(0, 0);
        lookIs(x, 1, 2);
        x.strike(1, 0);
        lookIs(x, 0, 0);
    }

    // ---- promise 20: can

    static void p20persons() {
        PrisonWeddings x = four();
        is("0", x.can(0), 240);
        is("7", x.can(7), 15);
        for (int a : OUTSIDE) {
            is("person " + a, x.can(a), BAD);
        }
        is("7 of 7", new PrisonWeddings().can(7), BAD);
    }

    /** None with whom: alone, no other kind, nobody of the other side. */
    static void p20none() {
        is("alone", Play.laid("m0,0,9;p0,0;").can(0), 0);
        PrisonWeddings men = Play.laid("m0,0,9;m2,0,9;p0,0;");
        is("two men", men.can(0), 0);
        is("two men, the lord", men.can(1), 0);
        PrisonWeddings heiress = Play.laid("m0,0,60;m1,0,60;w2,0,60;p0,0;");
        is("an heiress without a lord", heiress.can(2), 0);
        is("a debtor and an heiress", heiress.can(1), 0);
    }

    static void p20lordHeiress() {
        PrisonWeddings x = Play.laid("m2,0,60;w2,0,60;m1,0,60;w1,0,60;w0,0,60;p0,0;");
        is("lord", x.can(0), 2 + 8 + 16);
        is("debtor", x.can(2), 8 + 16);
        is("heiress", x.can(1), 1);
        is("widow", x.can(3), 1 + 4);
        is("maid", x.can(4), 1 + 4);
    }

    /** COINS: to the COIN, by the cheapest of the PARSONS. */
    static void p20coins() {
        PrisonWeddings x = Play.laid("m0,0,3;w0,0,3;w0,0,4;p0,20;p0,7;p0,9;");
        is("6 are too few, 7 are not", x.can(0), 4);
        is("she with 3", x.can(1), 0);
        is("she with 4", x.can(2), 1);
        x.wed(1, 0, 2);
        is("all is paid", x.can(0), 0);
        is("for nothing", Play.laid("m0,0,0;w0,0,0;p0,0;").can(0), 2);
        is("for 1", Play.laid("m0,0,0;w0,0,0;p0,1;").can(0), 0);
    }

    /** "by some PARSON": room with one of them. */
    static void p20room() {
        PrisonWeddings x = Play.laid("m0,0,60;w0,0,60;p0,0;p0,0;");
        for (int l = 0; l < 15; l++) {
            x.wed(l / 8, 0, 1);
        }
        is("one line is left", x.can(0), 2);
        is("the last line", x.wed(1, 0, 1), 7);
        is("no room", x.can(0), 0);
        x.strike(0, 3);
        is("a struck one is no room", x.can(1), 0);
    }

    static void p20roomThatTheyCanNotPay() {
        PrisonWeddings x = Play.laid("m0,0,60;w0,0,60;m0,0,4;w0,0,0;p0,4;p0,5;");
        is("he with 4", x.can(2), 2 + 8);
        for (int l = 0; l < 8; l++) {
            x.wed(0, 0, 1);
        }
        is("5 by the other", x.can(2), 2);
        is("together 4", x.can(3), 1);
    }

    /** The LAW. */
    static void p20theLaw() {
        PrisonWeddings x = Play.laid("m0,0,9;w0,0,9;p0,0;l3;");
        x.pass(2);
        is("a day ahead", x.can(0), 2);
        x.pass(1);
        is("the law", x.can(0), 0);
        x.pass(1);
        is("behind it", x.can(1), 0);
    }

    /** BLANK ones are no WEDDINGS; who is wed already still can be. */
    static void p20weddingsAlone() {
        PrisonWeddings x = Play.laid("m0,0,9;w0,0,9;p2,0;l3;");
        x.leave(0);
        x.wed(0, 0, 1);
        is("wed already", x.can(0), 2);
        Play.onDay(x, 3);
        is("a blank one behind the law", x.can(0), 0);
        is("can be filled", x.fill(0, 0, 0, 1), 1);
    }

    // ---- these calls change nothing, answered or refused

    static void p15to20changeNothing() {
        int[] whats = {-1, 0, 1, 2, 8, 999, 1000};
        for (int what : whats) {
            Edges.changesNothing("questions by " + what, Play::busy, x -> {
                x.mate(what, 0);
                x.mate(0, what);
                x.date(what, 0, 0);
                x.date(1, what, 0);
                x.date(1, 0, what);
                x.look(what);
                x.can(what);
                x.twice();
                x.falseOnes();
                x.person(what, 0);
                x.person(0, what);
                x.parson(what, 0);
                x.parson(0, what);
                x.line(what, 0, 0);
                x.line(1, what, 0);
                x.line(1, 0, what);
                return 0;
            }, 0);
        }
    }
}
