/** The edges of promises 1 to 8: THE TEXT, what is laid, what is told of PERSONS, PARSONS and LINES. */
final class TextEdgesTest {
    private static final int BAD = Play.BAD, NO = Play.NO, FULL = Play.FULL, NONE = Play.NONE;
    private static final String EIGHT = "m0,1,2;w0,1,2;m0,1,2;w0,1,2;m0,1,2;w0,1,2;m0,1,2;w0,1,2;";
    private static final String GAOL = "m0,12,5;p0,2;";

    public static void main(String[] args) {
        Edges.run(TextEdgesTest.class);
    }

    private static void is(String call, long got, long want) {
        Edges.is(call, got, want);
    }

    private static String times(String item, int n) {
        return item.repeat(n);
    }

    // ---- promise 1: a new object

    static void p01constants() {
        is("BAD", PrisonWeddings.BAD, -1);
        is("NO", PrisonWeddings.NO, -2);
        is("FULL", PrisonWeddings.FULL, -3);
        is("NONE", PrisonWeddings.NONE, -4);
    }

    /** "THE TEXT is empty." */
    static void p01theTextIsEmpty() {
        PrisonWeddings x = new PrisonWeddings();
        is("letters", x.count(10), 0);
        is("fault", x.fault(), NONE);
        is("lay", x.lay(), NO);
        is("wipe", x.wipe(), 0);
        is("the first letter", x.write('m'), 1);
    }

    /** "at first m0,12,5;.." */
    static void p01itIsAsTheFirstTextLaysIt() {
        PrisonWeddings told = Play.laid(Play.FIRST_TEXT);
        told.wipe();
        PrisonWeddings x = new PrisonWeddings();
        Edges.isSame("a new object", () -> Play.picture(x), () -> Play.picture(told));
        is("persons", x.count(0), 7);
        is("parsons", x.count(1), 3);
        is("the law", x.count(3), 30);
    }

    static void p01booksAreEmpty() {
        PrisonWeddings x = new PrisonWeddings();
        for (int p = 0; p < 3; p++) {
            is("lines of " + p, x.parson(p, 2), 0);
            is("blank ones of " + p, x.parson(p, 3), 0);
            is("paid to " + p, x.parson(p, 4), 0);
            is("line 0 of " + p, x.line(p, 0, 0), BAD);
        }
    }

    static void p01nothingIsSeenUndoneKept() {
        PrisonWeddings x = new PrisonWeddings();
        is("seen", x.count(7), 0);
        is("undoable", x.count(8), 0);
        is("kept", x.count(9), 0);
        is("forget", x.forget(), 0);
        is("undo", x.undo(), NO);
        is("back", x.back(), NO);
    }

    static void p01twoObjectsHaveNothingInCommon() {
        PrisonWeddings one = new PrisonWeddings(), other = new PrisonWeddings();
        one.wed(0, 0, 3);
        one.write('q');
        one.pass(4);
        Edges.isSame("the other", () -> Play.picture(other), () -> Play.picture(new PrisonWeddings()));
    }

    // ---- promise 2: write

    /** "A letter (32 to 126, as in ASCII)": each of them is taken. */
    static void p02lettersFrom32To126() {
        PrisonWeddings x = new PrisonWeddings();
        for (int letter = 32; letter <= 126; letter++) {
            is("letter " + letter, x.write(letter), letter - 31);
        }
    }

    static void p02otherLettersAreBad() {
        PrisonWeddings x = new PrisonWeddings();
        int[] others = {31, 127, 0, -1, 10, 128, 255, 256 + 'm', (1 << 16) + 'm', -(1 << 16) + 'm',
            Integer.MIN_VALUE, Integer.MIN_VALUE + 'm', Integer.MAX_VALUE};
        for (int letter : others) {
            is("letter " + letter, x.write(letter), BAD);
        }
        is("nothing is written", x.count(10), 0);
    }

    /** "letters (200 at most)" */
    static void p02twoHundredLetters() {
        PrisonWeddings x = new PrisonWeddings();
        Play.writeAll(x, times("m", 198));
        is("199th", x.write('m'), 199);
        is("200th", x.write('m'), 200);
        is("201st", x.write('m'), FULL);
        is("again", x.write('m'), FULL);
        is("letters", x.count(10), 200);
    }

    static void p02badAheadOfFull() {
        PrisonWeddings x = Play.written(times("m", 200));
        is("31", x.write(31), BAD);
        is("127", x.write(127), BAD);
        is("32", x.write(32), FULL);
    }

    static void p02aRefusedLetterIsNotWritten() {
        PrisonWeddings x = Play.written("l5;");
        x.write(31);
        is("fault behind BAD", x.fault(), NONE);
        Play.writeAll(x, times("l30;", 49) + "l");
        is("letters", x.count(10), 200);
        is("fault of the last letter", x.fault(), 199);
        PrisonWeddings full = Play.written(times("l30;", 50));
        is("full", full.write('x'), FULL);
        is("fault behind FULL", full.fault(), NONE);
    }

    // ---- promise 3: wipe

    static void p03emptyOneAndFull() {
        PrisonWeddings x = new PrisonWeddings();
        is("empty", x.wipe(), 0);
        x.write('m');
        is("one letter", x.wipe(), 1);
        is("empty again", x.wipe(), 0);
        Play.writeAll(x, times("z", 200));
        is("full", x.wipe(), 200);
        is("empty behind full", x.wipe(), 0);
        is("letters", x.count(10), 0);
    }

    static void p03behindItTheTextBeginsAnew() {
        PrisonWeddings x = Play.written(times("z", 200));
        x.wipe();
        is("fault", x.fault(), NONE);
        is("lay", x.lay(), NO);
        is("the first letter", x.write('l'), 1);
        Play.writeAll(x, "5;");
        is("fault", x.fault(), NONE);
    }

    static void p03allButTheTextStays() {
        PrisonWeddings x = Play.busy(), twin = Play.busy();
        is("wipe", x.wipe(), 8);
        Play.writeAll(x, "m0,1,2;p");
        Edges.isSame("behind wipe", () -> Play.picture(x), () -> Play.picture(twin));
        Edges.isSame("what was ahead of wipe", () -> Play.past(x), () -> Play.past(twin));
    }

    // ---- promise 4: fault

    private static void right(String item) {
        is("l7;" + item, Play.faultOf("l7;" + item), NONE);
    }

    private static void wrong(String item) {
        is("l7;" + item, Play.faultOf("l7;" + item), 3);
    }

    /** "NONE": empty and not. */
    static void p04emptyTextHasNone() {
        is("empty", Play.faultOf(""), NONE);
        is("a letter", Play.faultOf("m"), 0);
    }

    /** "K (0 SAILOR, 1 DEBTOR, 2 LORD)", "K (0 MAID, 1 WIDOW, 2 HEIRESS)", "K (0 PLAIN, 1 SLY, 2 BOLD)" */
    static void p04kinds() {
        for (int k = 0; k <= 2; k++) {
            right("m" + k + ",1,1;");
            right("w" + k + ",1,1;");
            right("p" + k + ",1;");
        }
        for (int k : new int[] {3, 4, 9, 10, 20, 99}) {
            wrong("m" + k + ",1,1;");
            wrong("w" + k + ",1,1;");
            wrong("p" + k + ",1;");
        }
    }

    /** "D (0 to 60) DEBTS" */
    static void p04debts() {
        for (int d : new int[] {0, 1, 59, 60}) {
            right("m0," + d + ",1;");
            right("w0," + d + ",1;");
        }
        for (int d : new int[] {61, 62, 99, 100}) {
            wrong("m0," + d + ",1;");
            wrong("w0," + d + ",1;");
        }
    }

    /** "C (0 to 60) COINS" */
    static void p04coins() {
        for (int c : new int[] {0, 1, 59, 60}) {
            right("m0,1," + c + ";");
            right("w0,1," + c + ";");
        }
        for (int c : new int[] {61, 62, 99, 100}) {
            wrong("m0,1," + c + ";");
            wrong("w0,1," + c + ";");
        }
    }

    /** "whose price is C (0 to 20) COINS" */
    static void p04price() {
        for (int c : new int[] {0, 1, 19, 20}) {
            right("p0," + c + ";");
        }
        for (int c : new int[] {21, 22, 60, 99, 100}) {
            wrong("p0," + c + ";");
        }
    }

    /** "on day D (1 to 99)" */
    static void p04law() {
        for (int d : new int[] {1, 2, 98, 99}) {
            right("l" + d + ";");
        }
        for (String d : new String[] {"0", "00", "100", "001", "000"}) {
            wrong("l" + d + ";");
        }
    }

    /** "numbers (one or two figures)": at each place of each ITEM none, one, two, three. */
    static void p04oneOrTwoFigures() {
        String[] forms = {"m#,1,1;", "m1,#,1;", "m1,1,#;", "w#,1,1;", "w1,#,1;", "w1,1,#;", "p#,1;", "p1,#;", "l#;"};
        for (String form : forms) {
            wrong(form.replace("#", ""));
            right(form.replace("#", "2"));
            right(form.replace("#", "02"));
            wrong(form.replace("#", "002"));
            wrong(form.replace("#", "0000002"));
        }
    }

    static void p04figuresAlone() {
        for (char sign = 32; sign <= 126; sign++) {
            boolean figure = sign >= '0' && sign <= '9';
            is("one figure, " + sign, Play.faultOf("m0," + sign + ",1;"), figure ? NONE : 0);
            is("the second, " + sign, Play.faultOf("l3;m0,1" + sign + ",1;"), figure ? NONE : 3);
            is("the first, " + sign, Play.faultOf("l3;l" + sign + "1;"), figure ? NONE : 3);
        }
    }

    /** "parted by , and a ; behind the last one" */
    static void p04signsBetween() {
        for (char sign = 32; sign <= 126; sign++) {
            boolean figure = sign >= '0' && sign <= '9';
            is("first part, " + sign, Play.faultOf("l3;m1" + sign + "1,1;"), sign == ',' ? NONE : 3);
            is("second part, " + sign, Play.faultOf("l3;w1,1" + sign + "1;"), sign == ',' ? NONE : 3);
            is("a parson's part, " + sign, Play.faultOf("l3;p1" + sign + "1;"), sign == ',' ? NONE : 3);
            is("behind the last, " + sign, Play.faultOf("l3;l1" + sign), sign == ';' ? NONE : 3);
            is("behind both figures, " + sign, Play.faultOf("l3;p0,11" + sign), sign == ';' ? NONE : 3);
            is("behind the end, " + sign, Play.faultOf("l3;" + sign), 3);
            is("in place of a price, " + sign, Play.faultOf("p1," + sign + ";"), figure ? NONE : 0);
        }
    }

    /** "a letter, then numbers": each letter with none to four of them. */
    static void p04lettersAndHowManyNumbers() {
        String[] numbers = {";", "1;", "1,1;", "1,1,1;", "1,1,1,1;"};
        for (char letter = 32; letter <= 126; letter++) {
            int wanted = letter == 'm' || letter == 'w' ? 3 : letter == 'p' ? 2 : letter == 'l' ? 1 : -1;
            for (int n = 0; n < numbers.length; n++) {
                String item = letter + numbers[n];
                is(item, Play.faultOf("l3;" + item), n == wanted ? NONE : 3);
            }
        }
    }

    /** An ITEM cut off at each of its letters is not so. */
    static void p04cutOff() {
        for (String item : new String[] {"m2,60,60;", "w2,60,60;", "p2,20;", "l99;"}) {
            for (int length = 1; length < item.length(); length++) {
                wrong(item.substring(0, length));
                wrong(item.substring(0, length) + "l3;");
            }
            right(item);
        }
    }

    /** "8 at most": MEN and WOMEN together. */
    static void p04eightPersons() {
        is("eight", Play.faultOf(EIGHT), NONE);
        is("a ninth, a man", Play.faultOf(EIGHT + "m0,1,2;"), 56);
        is("a ninth, a woman", Play.faultOf(EIGHT + "w0,1,2;"), 56);
        is("eight men", Play.faultOf(times("m0,1,2;", 8)), NONE);
        is("nine men", Play.faultOf(times("m0,1,2;", 9)), 56);
        is("eight women", Play.faultOf(times("w0,1,2;", 8)), NONE);
        is("nine women", Play.faultOf(times("w0,1,2;", 9)), 56);
        is("parsons behind eight", Play.faultOf(EIGHT + "p0,1;p0,1;p0,1;l3;"), NONE);
        is("the ninth behind these", Play.faultOf(EIGHT + "p0,1;l3;w0,1,2;"), 64);
    }

    /** "3 at most" */
    static void p04threeParsons() {
        is("three", Play.faultOf(times("p0,1;", 3)), NONE);
        is("four", Play.faultOf(times("p0,1;", 4)), 15);
        is("persons behind three", Play.faultOf(times("p0,1;", 3) + EIGHT), NONE);
        is("the fourth behind these", Play.faultOf(times("p0,1;", 3) + EIGHT + "p1,1;"), 71);
    }

    /** "of several such the last one counts": as many as there is room for. */
    static void p04laws() {
        is("fifty", Play.faultOf(times("l30;", 50)), NONE);
        is("a wrong one ahead of a right one", Play.faultOf("l5;l0;l5;"), 3);
    }

    /** "the place (from 0 on) of the first letter of the first ITEM that is not so" */
    static void p04theFirstOfSeveral() {
        is("the second item", Play.faultOf("m0,1,2;m0,61,2;m0,62,2;"), 7);
        is("first letter, not where it goes wrong", Play.faultOf("l3;m0,1,2"), 3);
        is("a letter ahead of a wrong number", Play.faultOf("l3;xm3,1,2;"), 3);
        is("a ninth that is wrong too", Play.faultOf(EIGHT + "m3,1,2;"), 56);
        is("wrong ahead of a ninth", Play.faultOf(times("m0,1,2;", 7) + "m3,1,2;m0,1,2;"), 49);
    }

    static void p04places0And199() {
        is("place 0", Play.faultOf("q" + times("l30;", 49)), 0);
        is("place 199", Play.faultOf(times("l30;", 49) + "l3;q"), 199);
        is("place 199, of an item's letter", Play.faultOf(times("l30;", 49) + "l3;l"), 199);
        is("place 196, cut off by the end", Play.faultOf(times("l30;", 49) + "l300"), 196);
        is("200 right letters", Play.faultOf(times("l30;", 50)), NONE);
    }

    static void p04whatIsLaidDoesNotCount() {
        PrisonWeddings x = Play.written(EIGHT + "p0,1;p0,1;p0,1;");
        is("eight and three", x.fault(), NONE);
        is("asked again", x.fault(), NONE);
        is("laid", x.lay(), 8);
        is("behind it", x.fault(), NONE);
    }

    static void p04nothingIsLaidByIt() {
        PrisonWeddings x = Play.written(GAOL);
        is("fault", x.fault(), NONE);
        is("persons", x.count(0), 7);
        is("parsons", x.count(1), 3);
        is("law", x.count(3), 30);
    }

    // ---- promise 5: lay

    /** "of a PERSON and a PARSON at least (NO else)" */
    static void p05aPersonAndAParsonAtLeast() {
        is("empty", Play.layOf(""), NO);
        is("the law alone", Play.layOf("l5;"), NO);
        is("a man alone", Play.layOf("m0,1,2;"), NO);
        is("a woman alone", Play.layOf("w0,1,2;"), NO);
        is("eight persons, no parson", Play.layOf(EIGHT), NO);
        is("a parson alone", Play.layOf("p0,1;"), NO);
        is("three parsons, nobody", Play.layOf(times("p0,1;", 3)), NO);
        is("a man, a parson", Play.layOf("m0,1,2;p0,1;"), 1);
        is("a parson, a woman", Play.layOf("p0,1;w0,1,2;"), 1);
    }

    /** "a TEXT without FAULT" */
    static void p05aFaultIsNo() {
        is("right", Play.layOf(GAOL), 1);
        is("a letter more", Play.layOf(GAOL + "l"), NO);
        is("a letter ahead", Play.layOf("l" + GAOL), NO);
        is("a ninth person", Play.layOf(EIGHT + GAOL), NO);
        is("a fourth parson", Play.layOf(GAOL + times("p0,1;", 3)), NO);
    }

    /** "how many PERSONS": 1 to 8; 1 to 3 PARSONS. */
    static void p05howMany() {
        for (int n = 1; n <= 8; n++) {
            PrisonWeddings x = Play.written(EIGHT.substring(0, 7 * n) + "p0,1;");
            is("persons", x.lay(), n);
            is("the last one", x.person(n - 1, 2), 1);
            is("the next one", x.person(n, 2), BAD);
        }
        for (int n = 1; n <= 3; n++) {
            PrisonWeddings x = Play.laid("m0,1,1;" + times("p0,1;", n));
            is("parsons", x.count(1), n);
            is("the last one", x.parson(n - 1, 1), 1);
            is("the next one", x.parson(n, 1), BAD);
        }
    }

    /** "MEN and WOMEN are PERSONS 0, 1, .. as they come", PARSONS "0, 1, ..", whatever stands between. */
    static void p05asTheyCome() {
        PrisonWeddings x = Play.laid("p2,20;w1,5,6;l9;p0,0;m2,60,0;w2,0,60;p1,7;m1,7,8;");
        int[][] persons = {{1, 1, 5, 6}, {0, 2, 60, 0}, {1, 2, 0, 60}, {0, 1, 7, 8}};
        int[][] parsons = {{2, 20}, {0, 0}, {1, 7}};
        for (int a = 0; a < 4; a++) {
            for (int what = 0; what < 4; what++) {
                is("person " + a + " " + what, x.person(a, what), persons[a][what]);
            }
        }
        for (int p = 0; p < 3; p++) {
            is("kind of " + p, x.parson(p, 0), parsons[p][0]);
            is("price of " + p, x.parson(p, 1), parsons[p][1]);
        }
    }

    /** "(60 without; of several such the last one counts)" */
    static void p05theLawsDay() {
        is("without", Play.laid(GAOL).count(3), 60);
        is("1", Play.laid(GAOL + "l1;").count(3), 1);
        is("99", Play.laid("l99;" + GAOL).count(3), 99);
        is("the last, later", Play.laid("l1;" + GAOL + "l99;").count(3), 99);
        is("the last, sooner", Play.laid("l99;" + GAOL + "l1;").count(3), 1);
        is("the last of three", Play.laid("l8;l9;" + GAOL + "l7;").count(3), 7);
        PrisonWeddings x = new PrisonWeddings();
        Play.writeAll(x, GAOL);
        x.lay();
        is("60, not the one ahead", x.count(3), 60);
    }

    /** A TEXT of 200 letters is laid. */
    static void p05twoHundredLetters() {
        String text = GAOL + times("l30;", 46) + "l4;";
        is("letters", text.length(), 200);
        PrisonWeddings x = Play.written(text);
        is("laid", x.lay(), 1);
        is("law", x.count(3), 4);
    }

    /** "day 0, BOOKS empty, nothing SEEN, UNDONE, KEPT; THE TEXT stays" */
    static void p05allIsNew() {
        PrisonWeddings x = Play.busy();
        x.wipe();
        Play.writeAll(x, Play.FIRST_TEXT);
        is("laid", x.lay(), 7);
        PrisonWeddings twin = Play.written(Play.FIRST_TEXT);
        Edges.isSame("laid over", () -> Play.picture(x), () -> Play.picture(twin));
        is("letters", x.count(10), Play.FIRST_TEXT.length());
        is("undo", x.undo(), NO);
        is("back", x.back(), NO);
        is("forget", x.forget(), 0);
    }

    static void p05layAgain() {
        PrisonWeddings x = Play.laid(GAOL + "w0,0,9;");
        is("wed", x.wed(0, 0, 1), 0);
        x.pass(5);
        is("again", x.lay(), 2);
        is("day", x.count(2), 0);
        is("coins", x.person(0, 3), 5);
        is("paid", x.parson(0, 4), 0);
        is("the line", x.line(0, 0, 0), BAD);
        is("the first line", x.wed(0, 0, 1), 0);
    }

    /** A LINE begun behind lay() is BLANK, whatever stood in its place ahead of it. */
    static void p05nothingIsLeftOfOldLines() {
        PrisonWeddings x = Play.laid("m0,0,60;w0,0,60;p2,1;");
        x.pass(2);
        x.wed(0, 0, 1);
        x.wed(0, 0, 1);
        x.strike(0, 1);
        is("again", x.lay(), 2);
        for (int l = 0; l < 2; l++) {
            is("left", x.leave(0), l);
            is("blank", x.line(0, l, 3), 1);
            is("begun", x.line(0, l, 0), 0);
            is("of no man", x.line(0, l, 1), NONE);
        }
        is("blank ones", x.count(6), 2);
        is("filled", x.fill(0, 1, 0, 1), 1);
    }

    static void p05fewerThanAhead() {
        PrisonWeddings x = Play.laid(GAOL);
        is("person 0", x.person(0, 0), 0);
        is("person 1 of the first text", x.person(1, 0), BAD);
        is("parson 1 of the first text", x.parson(1, 0), BAD);
        is("line of parson 1", x.line(1, 0, 0), BAD);
        is("wed by parson 1", x.wed(1, 0, 0), BAD);
    }

    private static void refusedLay(String text) {
        Edges.changesNothing("lay of " + text, () -> {
            PrisonWeddings x = Play.busy();
            x.wipe();
            Play.writeAll(x, text);
            return x;
        }, PrisonWeddings::lay, NO);
    }

    /** "nothing changes then": not by a TEXT whose FAULT stands at its end either. */
    static void p05aRefusedOneChangesNothing() {
        refusedLay("");
        refusedLay("l5;m2,60,60;w2,60,60;");
        refusedLay("l5;p2,20;p2,20;");
        refusedLay("l5;w2,60,60;m2,60,60;p2,20;q");
        refusedLay("l5;w2,60,60;m2,60,60;p2,20;l0;");
    }

    // ---- promise 6: person

    static void p06persons() {
        PrisonWeddings x = Play.laid(EIGHT + "p0,1;");
        is("-1", x.person(-1, 0), BAD);
        is("0", x.person(0, 0), 0);
        is("7", x.person(7, 0), 1);
        is("8", x.person(8, 0), BAD);
        is("far", x.person(Integer.MAX_VALUE, 0), BAD);
        is("far below", x.person(Integer.MIN_VALUE, 0), BAD);
        PrisonWeddings one = Play.laid(GAOL);
        is("the only one", one.person(0, 1), 0);
        is("the second of one", one.person(1, 1), BAD);
    }

    static void p06whats() {
        PrisonWeddings x = new PrisonWeddings();
        is("-1", x.person(0, -1), BAD);
        is("0", x.person(0, 0), 0);
        is("6", x.person(0, 6), 0);
        is("7", x.person(0, 7), BAD);
        is("far", x.person(0, Integer.MAX_VALUE), BAD);
        is("far below", x.person(0, Integer.MIN_VALUE), BAD);
        is("both", x.person(7, 7), BAD);
        is("bad ahead of none", x.person(-1, 4), BAD);
    }

    static void p06mateByTodayOrNone() {
        PrisonWeddings x = new PrisonWeddings();
        is("none", x.person(0, 4), NONE);
        x.pass(1);
        x.wed(0, 0, 3);
        is("on the day itself", x.person(0, 4), 3);
        is("hers", x.person(3, 4), 0);
        x.strike(0, 0);
        is("struck", x.person(0, 4), NONE);
    }

    private static int owedWith(int kind, int debts) {
        PrisonWeddings x = Play.laid("m2,0,9;w" + kind + "," + debts + ",9;p0,0;");
        x.wed(0, 0, 1);
        return x.person(0, 5);
    }

    /** "(half of a WIDOW's, cut)" */
    static void p06widowsDebtsHalfCut() {
        int[] debts = {0, 1, 2, 3, 59, 60}, halves = {0, 0, 1, 1, 29, 30};
        for (int i = 0; i < debts.length; i++) {
            is("a widow's " + debts[i], owedWith(1, debts[i]), halves[i]);
            is("a maid's " + debts[i], owedWith(0, debts[i]), debts[i]);
            is("an heiress's " + debts[i], owedWith(2, debts[i]), debts[i]);
        }
    }

    static void p06hisDebtsAreNeverHalf() {
        PrisonWeddings x = Play.laid("m1,59,9;w1,60,9;p0,0;");
        is("a debtor alone", x.person(0, 5), 59);
        is("a widow alone", x.person(1, 5), 60);
        x.wed(0, 0, 1);
        is("a debtor wed", x.person(0, 5), 89);
    }

    static void p06mostThatCanBeOwed() {
        PrisonWeddings x = Play.laid("m0,60,60;w0,60,60;p0,0;");
        x.wed(0, 0, 1);
        is("owed", x.person(0, 5), 120);
        is("debts stay", x.person(0, 2), 60);
        is("hers", x.person(1, 5), 0);
        is("her debts stay", x.person(1, 2), 60);
        x.strike(0, 0);
        is("owed behind striking", x.person(0, 5), 60);
        is("hers again", x.person(1, 5), 60);
    }

    /** "a WOMAN her own, if she has no MATE by today": in a LINE that does not HOLD, too. */
    static void p06lineThatDoesNotHold() {
        PrisonWeddings x = new PrisonWeddings();
        x.wed(1, 0, 3);
        x.wed(1, 0, 6);
        is("she owes", x.person(6, 5), 9);
        is("he owes with the first", x.person(0, 5), 15);
        is("her lines", x.person(6, 6), 1);
    }

    static void p06coins0To60() {
        PrisonWeddings x = Play.laid("m2,0,60;w0,0,0;p0,20;");
        is("60", x.person(0, 3), 60);
        is("0", x.person(1, 3), 0);
        x.wed(0, 0, 1);
        x.wed(0, 0, 1);
        x.wed(0, 0, 1);
        is("all paid", x.person(0, 3), 0);
        is("no more", x.wed(0, 0, 1), NO);
    }

    /** "in how many LINES": of two alone; 24 at most. */
    static void p06linesOfOne() {
        PrisonWeddings x = Play.laid("m2,0,60;w0,0,60;p2,0;p2,0;p2,0;");
        x.leave(0);
        is("a blank one", x.person(0, 6), 0);
        x.fill(0, 0, 0, 1);
        is("filled", x.person(0, 6), 1);
        x.strike(0, 0);
        is("struck", x.person(0, 6), 0);
        for (int l = 1; l < 8; l++) {
            x.wed(0, 0, 1);
        }
        is("seven", x.person(1, 6), 7);
        for (int l = 0; l < 16; l++) {
            x.wed(1 + l / 8, 0, 1);
        }
        is("all but the struck one", x.person(1, 6), 23);
        is("his", x.person(0, 6), 23);
    }

    // ---- promise 7: parson

    static void p07parsons() {
        PrisonWeddings x = new PrisonWeddings();
        is("-1", x.parson(-1, 0), BAD);
        is("0", x.parson(0, 0), 0);
        is("2", x.parson(2, 0), 2);
        is("3", x.parson(3, 0), BAD);
        is("far", x.parson(Integer.MAX_VALUE, 0), BAD);
        is("far below", x.parson(Integer.MIN_VALUE, 0), BAD);
        PrisonWeddings one = Play.laid(GAOL);
        is("the only one", one.parson(0, 1), 2);
        is("the second of one", one.parson(1, 1), BAD);
    }

    static void p07whats() {
        PrisonWeddings x = new PrisonWeddings();
        is("-1", x.parson(1, -1), BAD);
        is("0", x.parson(1, 0), 1);
        is("4", x.parson(1, 4), 0);
        is("5", x.parson(1, 5), BAD);
        is("far", x.parson(1, Integer.MAX_VALUE), BAD);
        is("far below", x.parson(1, Integer.MIN_VALUE), BAD);
    }

    static void p07linesAndBlankOnes0To8() {
        PrisonWeddings x = Play.laid("m2,0,60;w0,0,60;p2,0;p2,0;");
        for (int n = 0; n <= 8; n++) {
            is("lines", x.parson(0, 2), n);
            is("blank", x.parson(0, 3), n);
            is("left", x.leave(0), n < 8 ? n : FULL);
        }
        is("the other's", x.parson(1, 2), 0);
        is("the other's blank ones", x.parson(1, 3), 0);
        x.fill(0, 7, 0, 1);
        x.fill(0, 0, 0, 1);
        is("lines still", x.parson(0, 2), 8);
        is("blank but two", x.parson(0, 3), 6);
        x.strike(0, 7);
        is("struck is not blank", x.parson(0, 3), 6);
        is("struck is a line", x.parson(0, 2), 8);
    }

    /** Price 0 and 20: what is paid to him. */
    static void p07paid() {
        PrisonWeddings x = Play.laid("m2,0,60;w0,0,60;p0,0;p2,20;");
        x.wed(0, 0, 1);
        is("for nothing", x.parson(0, 4), 0);
        x.leave(1);
        is("for a blank one", x.parson(1, 4), 0);
        for (int n = 1; n <= 6; n++) {
            is("paid by two", x.wed(1, 0, 1), n);
            is("paid", x.parson(1, 4), 20 * n);
        }
        is("no coins", x.wed(1, 0, 1), NO);
        is("not paid", x.parson(1, 4), 120);
        is("his", x.person(0, 3), 0);
        is("hers", x.person(1, 3), 0);
        x.strike(1, 6);
        is("not paid back", x.parson(1, 4), 120);
        x.undo();
        x.undo();
        is("paid back by undoing", x.parson(1, 4), 100);
    }

    // ---- promise 8: line

    static void p08linesThatThereAre() {
        PrisonWeddings x = Play.laid("m2,0,60;w0,0,60;p2,0;p2,0;");
        is("none as yet", x.line(0, 0, 0), BAD);
        for (int n = 1; n <= 8; n++) {
            x.leave(0);
            is("the last", x.line(0, n - 1, 3), 1);
            is("the next", x.line(0, n, 3), BAD);
        }
        is("-1", x.line(0, -1, 3), BAD);
        is("far", x.line(0, Integer.MAX_VALUE, 3), BAD);
        is("far below", x.line(0, Integer.MIN_VALUE, 3), BAD);
        is("the other's", x.line(1, 0, 3), BAD);
        is("-1 of the other", x.line(1, -1, 3), BAD);
        is("parson -1", x.line(-1, 0, 3), BAD);
        is("parson -1, line 8", x.line(-1, 8, 3), BAD);
        is("parson 2", x.line(2, 0, 3), BAD);
        is("far parson", x.line(Integer.MAX_VALUE, 0, 3), BAD);
    }

    static void p08whats() {
        PrisonWeddings x = new PrisonWeddings();
        x.wed(0, 0, 3);
        is("-1", x.line(0, 0, -1), BAD);
        is("0", x.line(0, 0, 0), 0);
        is("5", x.line(0, 0, 5), 0);
        is("6", x.line(0, 0, 6), BAD);
        is("far", x.line(0, 0, Integer.MAX_VALUE), BAD);
        is("far below", x.line(0, 0, Integer.MIN_VALUE), BAD);
    }

    private static void lineIs(PrisonWeddings x, int p, int l, int... wants) {
        for (int what = 0; what < wants.length; what++) {
            is("line " + p + " " + l + " " + what, x.line(p, l, what), wants[what]);
        }
    }

    /** "(5; NONE: BLANK, or of nobody)"; the MAN and the WOMAN are NONE then, too. */
    static void p08blankThenOfTwoThenOfNobody() {
        PrisonWeddings x = new PrisonWeddings();
        x.pass(1);
        x.leave(2);
        lineIs(x, 2, 0, 1, NONE, NONE, 1, 0, NONE);
        x.pass(1);
        x.fill(2, 0, 3, 0);
        lineIs(x, 2, 0, 1, 0, 3, 0, 1, 2);
        x.pass(1);
        x.strike(2, 0);
        lineIs(x, 2, 0, 1, NONE, NONE, 0, 0, NONE);
        x.undo();
        lineIs(x, 2, 0, 1, 0, 3, 0, 1, 2);
    }

    /** A LINE of persons 0 and others is told apart from one of nobody; one that HOLDS not. */
    static void p08holdsOrNot() {
        PrisonWeddings x = new PrisonWeddings();
        x.wed(0, 0, 3);
        x.wed(0, 2, 3);
        x.wed(0, 2, 5);
        is("the first", x.line(0, 0, 4), 1);
        is("the second", x.line(0, 1, 4), 0);
        is("the third", x.line(0, 2, 4), 1);
        x.strike(0, 0);
        is("struck", x.line(0, 0, 4), 0);
        is("the second then", x.line(0, 1, 4), 1);
        is("the third then", x.line(0, 2, 4), 0);
    }

    static void p08writtenToday() {
        PrisonWeddings x = Play.onDay(new PrisonWeddings(), 29);
        x.leave(1);
        x.wed(1, 0, 3);
        lineIs(x, 1, 1, 29, 0, 3, 0, 1, 29);
        Play.onDay(x, 999);
        x.fill(1, 0, 2, 6);
        is("can not be paid", x.line(1, 0, 5), NONE);
    }
}
