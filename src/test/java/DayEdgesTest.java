import java.util.function.Supplier;

/** The edges of promises 9 to 14: WEDDINGS, BLANK LINES, STRIKING, DAYS, what is UNDONE. */
final class DayEdgesTest {
    private static final int BAD = Play.BAD, NO = Play.NO, FULL = Play.FULL;
    private static final int[] OUTSIDE = {-1, 3, 8, 100, -100, Integer.MAX_VALUE, Integer.MIN_VALUE};
    /** A rich LORD 0 and MAID 1, a poor SAILOR 2 and MAID 3; PARSONS 0 PLAIN, 1 SLY, 2 BOLD, all for 1; LAW on day 9. */
    private static final String RICH_AND_POOR = "m2,0,60;w0,0,60;m0,0,0;w0,0,0;p0,1;p1,1;p2,1;l9;";
    /** A MAN of each KIND, then a WOMAN of each; a BOLD PARSON for nothing. */
    private static final String EACH_KIND = "m0,0,60;m1,0,60;m2,0,60;w0,0,60;w1,0,60;w2,0,60;p2,0;";

    public static void main(String[] args) {
        Edges.run(DayEdgesTest.class);
    }

    private static void is(String call, long got, long want) {
        Edges.is(call, got, want);
    }

    // ---- promise 9: wed

    /** "BAD: a number is none that is told (PERSONS, PARSONS, LINES: such as there are)" */
    static void p09numbersThatAreNoneTold() {
        PrisonWeddings x = new PrisonWeddings();
        for (int p : OUTSIDE) {
            is("parson " + p, x.wed(p, 0, 3), BAD);
        }
        for (int a : OUTSIDE) {
            int person = a == 3 ? 7 : a;
            is("first person " + person, x.wed(0, person, 3), BAD);
            is("second person " + person, x.wed(0, 0, person), BAD);
            is("both " + person, x.wed(0, person, person), BAD);
        }
        is("the last parson, the last person", x.wed(2, 2, 6), 0);
        PrisonWeddings two = Play.laid("m0,0,9;w0,0,9;p0,1;");
        is("the third of two", two.wed(0, 0, 2), BAD);
        is("the second parson of one", two.wed(1, 0, 1), BAD);
        is("such as there are", two.wed(0, 0, 1), 0);
    }

    /** "BAD (alike, too)" */
    static void p09alike() {
        PrisonWeddings x = new PrisonWeddings();
        for (int a = 0; a < 7; a++) {
            is("person " + a, x.wed(0, a, a), BAD);
        }
    }

    /** Writes two into line 0 of PARSON 0. */
    private interface Writing {
        int of(int a, int b);
    }

    /** "a MAN and a WOMAN (whoever is told first), an HEIRESS with a LORD alone": every two there can be. */
    private static void everyTwo(PrisonWeddings x, Writing writing) {
        for (int a = 0; a < 6; a++) {
            for (int b = 0; b < 6; b++) {
                int man = Math.min(a, b), woman = Math.max(a, b);
                boolean can = man < 3 && woman >= 3 && (woman != 5 || man == 2);
                is(a + " and " + b, writing.of(a, b), a == b ? BAD : can ? 0 : NO);
                if (can) {
                    is("the man", x.line(0, 0, 1), man);
                    is("the woman", x.line(0, 0, 2), woman);
                    x.undo();
                }
            }
        }
    }

    static void p09everyTwo() {
        PrisonWeddings x = Play.laid(EACH_KIND);
        everyTwo(x, (a, b) -> x.wed(0, a, b));
    }

    /** "wed already or not" */
    static void p09wedAlready() {
        PrisonWeddings x = Play.laid(RICH_AND_POOR);
        is("not yet", x.wed(0, 0, 1), 0);
        is("the same two", x.wed(0, 0, 1), 1);
        is("he, with another", x.wed(0, 0, 3), 2);
        is("she, with another", x.wed(0, 2, 1), 3);
    }

    private static void lawOn(int law, String told) {
        PrisonWeddings x = Play.laid("m2,0,60;w0,0,60;p0,0;" + told);
        Play.onDay(x, law - 1);
        is("a day ahead of " + law, x.wed(0, 0, 1), 0);
        is("on " + law, x.pass(1), law);
        is("then", x.wed(0, 0, 1), NO);
        x.pass(1);
        is("the day behind", x.wed(0, 0, 1), NO);
        Play.onDay(x, 1000);
        is("long behind", x.wed(0, 0, 1), NO);
    }

    /** "From the day of the LAW on there are no WEDDINGS" */
    static void p09theLaw() {
        lawOn(1, "l1;");
        lawOn(2, "l2;");
        lawOn(30, "l30;");
        lawOn(60, "");
        lawOn(99, "l99;");
    }

    private static int wedWith(int his, int hers, int price) {
        return Play.laid("m0,0," + his + ";w0,0," + hers + ";p0," + price + ";").wed(0, 0, 1);
    }

    /** "they can not pay": both together. */
    static void p09bothCanPayTogether() {
        is("3 and 4 for 7", wedWith(3, 4, 7), 0);
        is("3 and 4 for 8", wedWith(3, 4, 8), NO);
        is("he alone", wedWith(20, 0, 20), 0);
        is("he alone, one less", wedWith(19, 0, 20), NO);
        is("she alone", wedWith(0, 20, 20), 0);
        is("she alone, one less", wedWith(0, 19, 20), NO);
        is("nothing for nothing", wedWith(0, 0, 0), 0);
        is("nothing for 1", wedWith(0, 0, 1), NO);
    }

    private static void paying(int his, int hers, int price, int hisThen, int hersThen) {
        for (int first = 0; first < 2; first++) {
            PrisonWeddings x = Play.laid("m0,0," + his + ";w0,0," + hers + ";p0," + price + ";");
            is("wed", x.wed(0, first, 1 - first), 0);
            is("his coins", x.person(0, 3), hisThen);
            is("her coins", x.person(1, 3), hersThen);
            is("paid", x.parson(0, 4), price);
        }
    }

    /** "the MAN pays, as far as his COINS go, the WOMAN the rest" */
    static void p09theManPaysAsFarAsHisCoinsGo() {
        paying(8, 9, 7, 1, 9);
        paying(7, 9, 7, 0, 9);
        paying(6, 9, 7, 0, 8);
        paying(0, 9, 7, 0, 2);
        paying(0, 7, 7, 0, 0);
        paying(6, 1, 7, 0, 0);
        paying(60, 60, 0, 60, 60);
        paying(0, 0, 0, 0, 0);
    }

    /** "8 at most", "FULL: 8 LINES" */
    static void p09eightLines() {
        PrisonWeddings x = Play.laid(RICH_AND_POOR);
        for (int l = 0; l < 8; l++) {
            is("line", x.wed(0, 0, 1), l);
        }
        is("a ninth", x.wed(0, 0, 1), FULL);
        is("again", x.wed(0, 1, 0), FULL);
        is("lines", x.parson(0, 2), 8);
        is("line 8", x.line(0, 8, 0), BAD);
        is("by another", x.wed(1, 0, 1), 0);
        is("undone", x.undo(), 7);
        is("one more undone", x.undo(), 6);
        is("room again", x.wed(0, 0, 1), 7);
        is("full again", x.wed(0, 0, 1), FULL);
    }

    /** LINES of nobody and BLANK ones are LINES. */
    static void p09struckAndBlankOnesTakeRoom() {
        PrisonWeddings x = Play.laid(RICH_AND_POOR);
        for (int l = 0; l < 7; l++) {
            is("blank", x.leave(2), l);
        }
        is("the eighth", x.wed(2, 0, 1), 7);
        is("strike", x.strike(2, 7), 0);
        is("a ninth", x.wed(2, 0, 1), FULL);
    }

    /** "FULL: 8 LINES (behind NO)", "Of several the first in this order" */
    static void p09orderOfRefusals() {
        PrisonWeddings x = fullBooks();
        is("full", x.wed(0, 0, 1), FULL);
        is("full, two men", x.wed(0, 0, 2), NO);
        is("full, can not pay", x.wed(0, 2, 3), NO);
        is("full, alike", x.wed(0, 2, 2), BAD);
        is("full, nobody", x.wed(0, 0, 4), BAD);
        is("bad parson, two men", x.wed(3, 0, 2), BAD);
        is("two men, one of them nobody", x.wed(0, 0, -1), BAD);
        Play.onDay(x, 9);
        is("full, the law", x.wed(0, 0, 1), NO);
        is("alike, the law", x.wed(0, 1, 1), BAD);
        is("bad parson, the law", x.wed(-1, 0, 1), BAD);
    }

    /** All BOOKS are full: of PARSON 0 of two, of PARSON 1 two BLANK, of PARSON 2 all BLANK. */
    private static PrisonWeddings fullBooks() {
        PrisonWeddings x = Play.laid(RICH_AND_POOR);
        x.leave(1);
        x.leave(1);
        for (int l = 0; l < 8; l++) {
            x.wed(0, 0, 1);
            x.wed(1, 0, 1);
            x.leave(2);
        }
        return x;
    }

    static void p09aRefusedOneChangesNothing() {
        Supplier<PrisonWeddings> busy = Play::busy;
        Edges.changesNothing("bad parson", busy, x -> x.wed(3, 0, 3), BAD);
        Edges.changesNothing("bad person", busy, x -> x.wed(0, 0, 7), BAD);
        Edges.changesNothing("alike", busy, x -> x.wed(0, 0, 0), BAD);
        Edges.changesNothing("two men", busy, x -> x.wed(0, 0, 1), NO);
        Edges.changesNothing("an heiress and a sailor", busy, x -> x.wed(0, 0, 5), NO);
        Edges.changesNothing("can not pay", DayEdgesTest::afterBlanks, x -> x.wed(0, 2, 3), NO);
        Edges.changesNothing("full", DayEdgesTest::fullBooks, x -> x.wed(0, 0, 1), FULL);
        Edges.changesNothing("the law", () -> Play.onDay(afterBlanks(), 9), x -> x.wed(0, 0, 1), NO);
    }

    private static PrisonWeddings afterBlanks() {
        PrisonWeddings x = Play.laid(RICH_AND_POOR);
        x.leave(1);
        x.leave(1);
        x.leave(2);
        x.pass(2);
        x.wed(0, 0, 1);
        return x;
    }

    // ---- promise 10: leave

    static void p10parsons() {
        PrisonWeddings x = new PrisonWeddings();
        for (int p : OUTSIDE) {
            is("parson " + p, x.leave(p), BAD);
        }
        is("the last one", x.leave(2), 0);
        is("the second of one", Play.laid("m0,0,9;p2,1;").leave(1), BAD);
    }

    /** "by a PLAIN one never" */
    static void p10plainNever() {
        PrisonWeddings x = Play.laid(RICH_AND_POOR);
        is("empty book", x.leave(0), NO);
        x.wed(0, 0, 1);
        is("a line", x.leave(0), NO);
    }

    /** "by a SLY one if fewer than 2 of his are BLANK" */
    static void p10slyIfFewerThanTwo() {
        PrisonWeddings x = Play.laid(RICH_AND_POOR);
        x.leave(2);
        x.leave(2);
        is("none of his blank", x.leave(1), 0);
        is("one blank", x.leave(1), 1);
        is("two blank", x.leave(1), NO);
        is("filled", x.fill(1, 0, 0, 1), 1);
        is("one blank again", x.leave(1), 2);
        is("two blank again", x.leave(1), NO);
        is("strike", x.strike(1, 0), 0);
        is("struck is not blank, but two are", x.leave(1), NO);
        is("both filled", x.fill(1, 1, 0, 1) + x.fill(1, 2, 0, 1), 2);
        is("none blank", x.leave(1), 3);
        is("a wedding does not count", x.wed(1, 0, 1), 4);
        is("one blank once more", x.leave(1), 5);
        is("two blank once more", x.leave(1), NO);
    }

    /** A BOLD one as often as there is room: 8 LINES. */
    static void p10boldEightTimes() {
        PrisonWeddings x = Play.laid(RICH_AND_POOR);
        for (int l = 0; l < 8; l++) {
            is("blank", x.leave(2), l);
        }
        is("a ninth", x.leave(2), FULL);
        is("filled", x.fill(2, 3, 0, 1), 1);
        is("full still", x.leave(2), FULL);
        is("undone", x.undo(), 7);
        is("the eighth undone", x.undo(), 6);
        is("room again", x.leave(2), 7);
    }

    /** "no LINE is LEFT BLANK": from the day of the LAW on. */
    static void p10theLaw() {
        for (int p = 1; p <= 2; p++) {
            PrisonWeddings x = Play.onDay(Play.laid(RICH_AND_POOR), 8);
            is("a day ahead", x.leave(p), 0);
            x.pass(1);
            is("the law", x.leave(p), NO);
            x.pass(1);
            is("behind it", x.leave(p), NO);
        }
    }

    /** It costs nothing and is begun today, of nobody. */
    static void p10whatIsLeft() {
        PrisonWeddings x = Play.onDay(Play.laid(RICH_AND_POOR), 8);
        is("blank", x.leave(2), 0);
        is("begun", x.line(2, 0, 0), 8);
        is("it is blank", x.line(2, 0, 3), 1);
        is("paid", x.parson(2, 4), 0);
        is("coins", x.person(0, 3) + x.person(1, 3), 120);
    }

    static void p10orderOfRefusals() {
        PrisonWeddings x = fullBooks();
        is("plain, full", x.leave(0), NO);
        is("sly, two blank, full", x.leave(1), NO);
        is("bold, full", x.leave(2), FULL);
        is("sly, one blank, full", x.fill(1, 0, 0, 1), 1);
        is("then", x.leave(1), FULL);
        is("bad", x.leave(3), BAD);
        Play.onDay(x, 9);
        is("bold, full, the law", x.leave(2), NO);
        is("sly, full, the law", x.leave(1), NO);
        is("bad, the law", x.leave(-1), BAD);
    }

    static void p10aRefusedOneChangesNothing() {
        Edges.changesNothing("bad", Play::busy, x -> x.leave(3), BAD);
        Edges.changesNothing("plain", Play::busy, x -> x.leave(0), NO);
        Edges.changesNothing("sly", DayEdgesTest::afterBlanks, x -> x.leave(1), NO);
        Edges.changesNothing("full", DayEdgesTest::fullBooks, x -> x.leave(2), FULL);
        Edges.changesNothing("the law", () -> Play.onDay(afterBlanks(), 9), x -> x.leave(2), NO);
    }

    // ---- promise 11: fill

    /** LINES "such as there are", PERSONS, PARSONS. */
    static void p11numbersThatAreNoneTold() {
        PrisonWeddings x = Play.laid(RICH_AND_POOR);
        is("no line as yet", x.fill(2, 0, 0, 1), BAD);
        x.leave(2);
        x.leave(2);
        is("the line behind the last", x.fill(2, 2, 0, 1), BAD);
        is("the last line", x.fill(2, 1, 0, 1), 1);
        is("another's book", x.fill(1, 0, 0, 1), BAD);
        for (int out : OUTSIDE) {
            is("parson " + out, x.fill(out, 0, 0, 1), BAD);
            is("line " + out, x.fill(2, out, 0, 1), BAD);
            int person = out == 3 ? 4 : out;
            is("first person " + person, x.fill(2, 0, person, 1), BAD);
            is("second person " + person, x.fill(2, 0, 0, person), BAD);
        }
        is("filled", x.fill(2, 0, 0, 1), 1);
    }

    static void p11eightLines() {
        PrisonWeddings x = Play.laid(RICH_AND_POOR);
        for (int l = 0; l < 8; l++) {
            x.leave(2);
        }
        is("line 8", x.fill(2, 8, 0, 1), BAD);
        is("line -1", x.fill(2, -1, 0, 1), BAD);
        is("line 7, in a full book", x.fill(2, 7, 0, 1), 1);
        is("line 0, in a full book", x.fill(2, 0, 0, 1), 1);
    }

    /** "BAD (alike, too)" */
    static void p11alike() {
        PrisonWeddings x = afterBlanks();
        is("alike", x.fill(2, 0, 1, 1), BAD);
        is("alike, line of two", x.fill(0, 0, 1, 1), BAD);
    }

    /** "NO: not BLANK": of two, of nobody. */
    static void p11notBlank() {
        PrisonWeddings x = afterBlanks();
        is("of two, by a wedding", x.fill(0, 0, 0, 1), NO);
        is("blank", x.fill(2, 0, 0, 1), 2);
        is("filled already", x.fill(2, 0, 0, 1), NO);
        x.strike(2, 0);
        is("of nobody", x.fill(2, 0, 0, 1), NO);
        x.undo();
        x.undo();
        is("blank again", x.fill(2, 0, 0, 1), 2);
    }

    static void p11everyTwo() {
        PrisonWeddings x = Play.laid(EACH_KIND);
        x.leave(0);
        everyTwo(x, (a, b) -> x.fill(0, 0, a, b));
    }

    private static int costAfter(int kind, int price, int days) {
        PrisonWeddings x = Play.laid("m2,0,60;w0,0,60;p" + kind + "," + price + ";");
        x.leave(0);
        Play.onDay(x, days);
        return x.fill(0, 0, 0, 1);
    }

    /** "his price and 1 for each day since it was begun (of a BOLD one half as many for these, cut)" */
    static void p11whatItCosts() {
        for (int days : new int[] {0, 1, 2, 3, 4, 29, 30, 31, 59, 60, 61, 99}) {
            is("sly, days " + days, costAfter(1, 20, days), 20 + days);
            is("sly for nothing, days " + days, costAfter(1, 0, days), days);
            is("bold, days " + days, costAfter(2, 20, days), 20 + days / 2);
            is("bold for nothing, days " + days, costAfter(2, 0, days), days / 2);
        }
        is("the price is not cut", costAfter(2, 5, 0), 5);
        is("nor with a day", costAfter(2, 5, 1), 5);
    }

    /** 120 COINS are the most that two can have. */
    static void p11theMostThatCanBePaid() {
        is("sly, 120", costAfter(1, 20, 100), 120);
        is("sly, 121", costAfter(1, 20, 101), NO);
        is("bold, 120", costAfter(2, 20, 201), 120);
        is("bold, 121", costAfter(2, 20, 202), NO);
        is("far", costAfter(2, 20, 3000), NO);
    }

    private static PrisonWeddings blankFor(int his, int hers, int price, int days) {
        PrisonWeddings x = Play.laid("m0,0," + his + ";w0,0," + hers + ";p1," + price + ";");
        x.leave(0);
        return Play.onDay(x, days);
    }

    /** "they can not pay": to the COIN. */
    static void p11payingToTheCoin() {
        is("3 and 4 for 7", blankFor(3, 4, 5, 2).fill(0, 0, 0, 1), 7);
        is("3 and 4 for 8", blankFor(3, 4, 5, 3).fill(0, 0, 0, 1), NO);
        is("nothing for nothing", blankFor(0, 0, 0, 0).fill(0, 0, 0, 1), 0);
        is("nothing for 1", blankFor(0, 0, 0, 1).fill(0, 0, 0, 1), NO);
        PrisonWeddings x = blankFor(6, 9, 5, 2);
        is("for 7", x.fill(0, 0, 1, 0), 7);
        is("his coins", x.person(0, 3), 0);
        is("her coins", x.person(1, 3), 8);
        is("paid", x.parson(0, 4), 7);
        PrisonWeddings y = blankFor(8, 9, 5, 2);
        is("for 7", y.fill(0, 0, 1, 0), 7);
        is("his coins", y.person(0, 3), 1);
        is("her coins", y.person(1, 3), 9);
    }

    /** "(but BLANK ones can be FILLED)": from the day of the LAW on. */
    static void p11theLawDoesNotMatter() {
        for (int day : new int[] {8, 9, 10}) {
            PrisonWeddings x = Play.laid(RICH_AND_POOR);
            x.leave(1);
            Play.onDay(x, day);
            is("on day " + day, x.fill(1, 0, 0, 1), 1 + day);
            is("begun", x.line(1, 0, 0), 0);
            is("written", x.line(1, 0, 5), day);
            is("holds by its day", x.mate(0, 0), 1);
        }
    }

    static void p11orderOfRefusals() {
        PrisonWeddings x = afterBlanks();
        is("no line, two men", x.fill(0, 1, 0, 2), BAD);
        is("not blank, nobody", x.fill(0, 0, 0, 4), BAD);
        is("not blank, two men", x.fill(0, 0, 0, 2), NO);
        is("can not pay, bad parson", x.fill(3, 0, 2, 3), BAD);
        is("can not pay", x.fill(1, 0, 2, 3), NO);
    }

    static void p11aRefusedOneChangesNothing() {
        Edges.changesNothing("bad line", Play::busy, x -> x.fill(1, 2, 2, 6), BAD);
        Edges.changesNothing("bad person", Play::busy, x -> x.fill(1, 0, 2, 7), BAD);
        Edges.changesNothing("alike", Play::busy, x -> x.fill(1, 0, 2, 2), BAD);
        Edges.changesNothing("of nobody", Play::busy, x -> x.fill(1, 1, 2, 4), NO);
        Edges.changesNothing("of two", Play::busy, x -> x.fill(2, 0, 2, 4), NO);
        Edges.changesNothing("two women", Play::busy, x -> x.fill(1, 0, 3, 4), NO);
        Edges.changesNothing("an heiress and a debtor", Play::busy, x -> x.fill(1, 0, 1, 5), NO);
        Edges.changesNothing("can not pay", DayEdgesTest::afterBlanks, x -> x.fill(1, 0, 2, 3), NO);
    }

    // ---- promise 12: strike

    static void p12linesThatThereAre() {
        PrisonWeddings x = Play.laid(RICH_AND_POOR);
        is("no line as yet", x.strike(0, 0), BAD);
        for (int l = 0; l < 8; l++) {
            x.wed(0, 0, 1);
        }
        for (int out : OUTSIDE) {
            is("parson " + out, x.strike(out, 0), BAD);
            int line = out == 3 ? 9 : out;
            is("line " + line, x.strike(0, line), BAD);
        }
        is("another's book", x.strike(1, 0), BAD);
        is("the last one", x.strike(0, 7), 1);
        is("the first one", x.strike(0, 0), 1);
    }

    /** "NO: it is BLANK, of nobody" */
    static void p12blankOrOfNobody() {
        PrisonWeddings x = Play.laid(RICH_AND_POOR);
        x.leave(1);
        is("blank", x.strike(1, 0), NO);
        x.fill(1, 0, 0, 1);
        is("of two", x.strike(1, 0), 0);
        is("of nobody", x.strike(1, 0), NO);
        x.undo();
        is("of two again", x.strike(1, 0), 0);
    }

    /** "how many HOLD then": fewer, as many, more. */
    static void p12howManyHoldThen() {
        PrisonWeddings x = Play.laid("m2,0,60;m2,0,60;w0,0,60;w0,0,60;p0,0;p0,0;p0,0;");
        x.wed(0, 0, 2);
        is("the only one", x.strike(0, 0), 0);
        x.wed(0, 0, 2);
        x.wed(0, 0, 3);
        x.wed(0, 1, 2);
        is("before", x.count(5), 1);
        is("two hold for it", x.strike(0, 1), 2);
        is("one of these", x.strike(0, 3), 1);
        x.wed(1, 0, 2);
        is("one that does not hold", x.strike(1, 0), 1);
    }

    static void p12coinsAndLinesStay() {
        PrisonWeddings x = Play.laid(RICH_AND_POOR);
        x.wed(0, 0, 1);
        x.strike(0, 0);
        is("coins", x.person(0, 3), 59);
        is("paid", x.parson(0, 4), 1);
        is("lines", x.parson(0, 2), 1);
        is("the next one", x.wed(0, 0, 1), 1);
        is("behind the law", Play.onDay(x, 9).strike(0, 1), 0);
    }

    static void p12aRefusedOneChangesNothing() {
        Edges.changesNothing("bad line", Play::busy, x -> x.strike(0, 1), BAD);
        Edges.changesNothing("bad parson", Play::busy, x -> x.strike(3, 0), BAD);
        Edges.changesNothing("blank", Play::busy, x -> x.strike(1, 0), NO);
        Edges.changesNothing("of nobody", Play::busy, x -> x.strike(1, 1), NO);
    }

    // ---- promise 13: pass

    /** "n days (1 to 30) go by" */
    static void p13oneToThirty() {
        for (int n = 1; n <= 30; n++) {
            is("days", new PrisonWeddings().pass(n), n);
        }
        for (int n : new int[] {0, 31, -1, -30, 100, Integer.MAX_VALUE, Integer.MIN_VALUE}) {
            is("days " + n, new PrisonWeddings().pass(n), BAD);
        }
    }

    static void p13whichDayItIs() {
        PrisonWeddings x = new PrisonWeddings();
        is("1", x.pass(1), 1);
        is("30 more", x.pass(30), 31);
        is("the day", x.count(2), 31);
        x.undo();
        is("1 more", x.pass(1), 2);
    }

    /** No day is the last: as many as 500 calls bring. */
    static void p13farDays() {
        PrisonWeddings x = new PrisonWeddings();
        x.wed(0, 0, 3);
        for (int i = 1; i <= 500; i++) {
            is("day", x.pass(30), 30 * i);
        }
        is("mate by today", x.person(0, 4), 3);
        is("the law", x.wed(0, 0, 3), NO);
        is("undo", x.undo(), 7);
        is("day", x.count(2), 14970);
    }

    static void p13aRefusedOneChangesNothing() {
        Edges.changesNothing("no days", Play::busy, x -> x.pass(0), BAD);
        Edges.changesNothing("31 days", Play::busy, x -> x.pass(31), BAD);
        Edges.changesNothing("days less", Play::busy, x -> x.pass(-1), BAD);
    }

    // ---- promise 14: undo

    static void p14nothing() {
        PrisonWeddings x = new PrisonWeddings();
        is("a new object", x.undo(), NO);
        x.pass(1);
        is("one", x.undo(), 0);
        is("no more", x.undo(), NO);
        is("day", x.count(2), 0);
    }

    /** "the last 8 can be": 7, 8, 9 of them. */
    static void p14theLastEight() {
        for (int done = 1; done <= 20; done++) {
            PrisonWeddings x = new PrisonWeddings();
            for (int i = 0; i < done; i++) {
                x.pass(1);
            }
            int can = Math.min(8, done);
            is("undoable", x.count(8), can);
            for (int left = can - 1; left >= 0; left--) {
                is("undone", x.undo(), left);
                is("undoable then", x.count(8), left);
            }
            is("no more", x.undo(), NO);
            is("day", x.count(2), done - can);
        }
    }

    /** "the latest WEDDING, LEAVING, FILLING, STRIKING, DAYS": each alone, behind it all is as ahead of it. */
    static void p14eachKind() {
        undone("wedding", x -> x.wed(1, 2, 3));
        undone("leaving", x -> x.leave(2));
        undone("filling", x -> x.fill(1, 0, 2, 4));
        undone("striking", x -> x.strike(0, 0));
        undone("a day", x -> x.pass(1));
        undone("thirty days", x -> x.pass(30));
    }

    private static void undone(String name, Play.Change change) {
        PrisonWeddings x = Play.busy(), twin = Play.busy();
        is(name, change.on(x) >= 0 ? 1 : 0, 1);
        is("one more can be undone", x.count(8), 8);
        is("undone", x.undo(), 7);
        Edges.isSame(name + " undone", () -> Play.picture(x), () -> Play.picture(twin));
        Edges.isSame("what was ahead of " + name, () -> Play.past(x), () -> Play.past(twin));
    }

    /** "all that go by at one time are one" */
    static void p14daysThatGoByAtOneTime() {
        PrisonWeddings x = new PrisonWeddings();
        x.pass(30);
        x.pass(2);
        is("two of them", x.count(8), 2);
        is("the two days", x.undo(), 1);
        is("day 30", x.count(2), 30);
        is("the thirty", x.undo(), 0);
        is("day 0", x.count(2), 0);
    }

    /** What is no WEDDING, LEAVING, FILLING, STRIKING, nor DAYS is not UNDONE. */
    static void p14otherCallsAreNotUndone() {
        PrisonWeddings x = new PrisonWeddings();
        x.write('m');
        x.wipe();
        x.see(0, 3, 0, true);
        x.forget();
        x.keep();
        x.gaol(1, 40, 0);
        x.touts(1, 5, 0);
        is("undoable", x.count(8), 0);
        is("undo", x.undo(), NO);
        x.pass(1);
        x.see(0, 3, 0, true);
        x.write('m');
        x.keep();
        is("undo", x.undo(), 0);
        is("day", x.count(2), 0);
        is("seen still", x.count(7), 1);
        is("kept still", x.count(9), 2);
        is("letters still", x.count(10), 1);
    }

    static void p14undoneIsNoMore() {
        PrisonWeddings x = new PrisonWeddings();
        x.pass(1);
        x.pass(2);
        x.undo();
        x.pass(3);
        is("undoable", x.count(8), 2);
        is("the three", x.undo(), 1);
        is("day 1", x.count(2), 1);
        is("the one", x.undo(), 0);
        is("day 0", x.count(2), 0);
    }

    /** Behind 8 UNDONE of more, 8 new ones can be. */
    static void p14eightAgain() {
        PrisonWeddings x = new PrisonWeddings();
        for (int i = 0; i < 13; i++) {
            x.pass(1);
        }
        while (x.undo() >= 0) {
            is("day", x.count(2), 5 + x.count(8));
        }
        for (int i = 0; i < 9; i++) {
            x.pass(2);
        }
        is("undoable", x.count(8), 8);
        while (x.undo() >= 0) {
            is("day", x.count(2), 7 + 2 * x.count(8));
        }
        is("the last of them", x.count(2), 7);
    }

    static void p14aRefusedOneChangesNothing() {
        Edges.changesNothing("undo", () -> {
            PrisonWeddings x = Play.busy();
            for (int i = 0; i < 8; i++) {
                x.undo();
            }
            return x;
        }, PrisonWeddings::undo, NO);
    }
}
