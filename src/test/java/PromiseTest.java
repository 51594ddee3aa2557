/** For each promise ordinary calls, the edges that the document names, and wrong numbers. */
final class PromiseTest {
    private static final int BAD = Play.BAD, NO = Play.NO, FULL = Play.FULL, NONE = Play.NONE;
    private static final Due due = new Due();

    public static void main(String[] args) {
        promise1();
        promise2and3();
        promise4items();
        promise4limits();
        promise5();
        promise6();
        promise7();
        promise8();
        promise9();
        promise10();
        promise11();
        promise12();
        promise13();
        promise14();
        promise15();
        promise16and17();
        promise18();
        promise19();
        promise20();
        promise21and22();
        promise23();
        promise24();
        promise25();
        promise26();
        promise27();
        promise28and29();
        promise30();
        due.close("PromiseTest");
    }

    private static void part(String name) {
        due.part(name);
    }

    private static void is(String call, long got, long want) {
        due.same(call, got, want);
    }

    private static void promise1() {
        part("promise 1");
        PrisonWeddings x = new PrisonWeddings();
        int[] counts = {7, 3, 0, 30, 0, 0, 0, 0, 0, 0, 0};
        for (int what = 0; what < counts.length; what++) {
            is("count " + what, x.count(what), counts[what]);
        }
        int[][] persons = {
            {0, 0, 12, 5}, {0, 1, 40, 2}, {0, 2, 0, 50}, {1, 0, 3, 8}, {1, 1, 30, 12}, {1, 2, 0, 60}, {1, 0, 9, 20}};
        for (int a = 0; a < persons.length; a++) {
            for (int what = 0; what < 4; what++) {
                is("person " + a + " " + what, x.person(a, what), persons[a][what]);
            }
        }
        int[][] parsons = {{0, 2}, {1, 3}, {2, 5}};
        for (int p = 0; p < parsons.length; p++) {
            is("kind of parson " + p, x.parson(p, 0), parsons[p][0]);
            is("price of parson " + p, x.parson(p, 1), parsons[p][1]);
        }
        is("lay of nothing", x.lay(), NO);
        is("persons still", x.count(0), 7);
        is("undo", x.undo(), NO);
        is("back", x.back(), NO);
        is("wipe", x.wipe(), 0);
    }

    private static void promise2and3() {
        part("promises 2, 3");
        PrisonWeddings x = new PrisonWeddings();
        is("31", x.write(31), BAD);
        is("127", x.write(127), BAD);
        is("-1", x.write(-1), BAD);
        is("far", x.write(Integer.MAX_VALUE), BAD);
        is("32", x.write(32), 1);
        is("126", x.write(126), 2);
        for (int i = 3; i <= 200; i++) {
            is("letter " + i, x.write('m'), i);
        }
        is("201st", x.write('m'), FULL);
        is("201st, bad", x.write(31), BAD);
        is("length", x.count(10), 200);
        is("wipe", x.wipe(), 200);
        is("wipe again", x.wipe(), 0);
        is("length", x.count(10), 0);
        is("write behind wipe", x.write('l'), 1);
        is("persons stay", x.count(0), 7);
    }

    private static void promise4items() {
        part("promise 4");
        is("empty", Play.faultOf(""), NONE);
        is("a man", Play.faultOf("m0,1,2;"), NONE);
        is("two figures", Play.faultOf("m00,05,09;w2,60,60;p02,20;l01;l99;"), NONE);
        is("kind 3", Play.faultOf("m0,1,2;m3,1,2;"), 7);
        is("debts 61", Play.faultOf("m0,61,2;"), 0);
        is("coins 61", Play.faultOf("p0,1;w0,1,61;"), 5);
        is("woman's kind 3", Play.faultOf("p0,1;w3,1,6;"), 5);
        is("price 20", Play.faultOf("p2,20;"), NONE);
        is("price 21", Play.faultOf("p2,21;"), 0);
        is("parson's kind 3", Play.faultOf("p3,2;"), 0);
        is("law 0", Play.faultOf("l1;l0;"), 3);
        is("law 100", Play.faultOf("l100;"), 0);
        is("three figures", Play.faultOf("m0,001,2;"), 0);
        is("no figure", Play.faultOf("m0,,2;"), 0);
        is("too few numbers", Play.faultOf("m0,1;"), 0);
        is("too many numbers", Play.faultOf("m0,1,2,3;"), 0);
        is("no end", Play.faultOf("l3;m0,1,2"), 3);
        is("no end of a number", Play.faultOf("l3;l4"), 3);
        is("only a letter", Play.faultOf("l3;w"), 3);
        is("a letter that is none", Play.faultOf("l3;x1;"), 3);
        is("capital", Play.faultOf("M0,1,2;"), 0);
        is("a blank", Play.faultOf("l3; l4;"), 3);
        is("a second end", Play.faultOf("l3;;"), 3);
        is("number first", Play.faultOf("3l;"), 0);
        is("minus", Play.faultOf("l-3;"), 0);
        is("the first of two", Play.faultOf("l3;q;z;"), 3);
        is("sign behind 9", Play.faultOf("l:;"), 0);
        is("sign ahead of 0", Play.faultOf("l/;"), 0);
    }

    private static void promise4limits() {
        part("promise 4, how many");
        String eight = "m0,1,2;w0,1,2;m0,1,2;w0,1,2;m0,1,2;w0,1,2;m0,1,2;w0,1,2;";
        is("8 persons", Play.faultOf(eight), NONE);
        is("9 persons", Play.faultOf(eight + "l3;m0,1,2;"), 59);
        is("9 persons, a woman", Play.faultOf(eight + "w0,1,2;"), 56);
        is("3 parsons", Play.faultOf("p0,1;p0,1;p0,1;"), NONE);
        is("4 parsons", Play.faultOf("p0,1;p0,1;p0,1;p0,1;"), 15);
        is("wiped and right", faultAfterWipe(), NONE);
    }

    private static int faultAfterWipe() {
        PrisonWeddings x = new PrisonWeddings();
        Play.writeAll(x, "junk");
        is("junk", x.fault(), 0);
        x.wipe();
        Play.writeAll(x, "l5;");
        return x.fault();
    }

    private static void promise5() {
        part("promise 5");
        PrisonWeddings x = new PrisonWeddings();
        x.wed(0, 0, 3);
        x.leave(1);
        x.keep();
        x.see(0, 3, 1, true);
        x.pass(3);
        Play.writeAll(x, "m0,1,9;");
        is("no parson", x.lay(), NO);
        is("all stands", x.count(2), 3);
        is("all stays", x.count(0), 7);
        x.wipe();
        Play.writeAll(x, "p0,1;");
        is("no person", x.lay(), NO);
        Play.writeAll(x, "m0,1,9;w1,2,3;");
        is("laid", x.lay(), 2);
        int[] counts = {2, 1, 0, 60, 0, 0, 0, 0, 0, 0, 19};
        for (int what = 0; what < counts.length; what++) {
            is("count " + what, x.count(what), counts[what]);
        }
        is("coins", x.person(0, 3), 9);
        is("paid", x.parson(0, 4), 0);
        is("no line", x.line(0, 0, 0), BAD);
        is("no undo", x.undo(), NO);
        is("no back", x.back(), NO);
        is("wed", x.wed(0, 0, 1), 0);
        is("laid again", x.lay(), 2);
        is("coins again", x.person(0, 3), 9);
        is("no lines", x.parson(0, 2), 0);
        Play.writeAll(x, "z");
        is("fault", x.lay(), NO);
        is("law, the last", lawOf("m0,1,1;p0,1;l5;l7;"), 7);
        is("law, none", lawOf("m0,1,1;p0,1;"), 60);
    }

    private static int lawOf(String text) {
        return Play.laid(text).count(3);
    }

    private static void promise6() {
        part("promise 6");
        PrisonWeddings x = new PrisonWeddings();
        x.wed(0, 1, 4);
        is("debts of a widow, half", x.person(1, 5), 55);
        is("her debts then", x.person(4, 5), 0);
        is("her debts of old", x.person(4, 2), 30);
        is("his mate", x.person(1, 4), 4);
        is("her mate", x.person(4, 4), 1);
        is("without", x.person(0, 4), NONE);
        is("owes alone", x.person(0, 5), 12);
        is("she owes alone", x.person(6, 5), 9);
        x.wed(1, 2, 6);
        is("debts of a maid, whole", x.person(2, 5), 9);
        x.wed(1, 2, 4);
        is("her line that holds not", x.person(4, 6), 2);
        is("his lines", x.person(2, 6), 2);
        is("odd widow", oddWidow(), 13);
        is("what -1", x.person(0, -1), BAD);
        is("what 7", x.person(0, 7), BAD);
        is("person -1", x.person(-1, 0), BAD);
        is("person 7", x.person(7, 0), BAD);
    }

    private static int oddWidow() {
        PrisonWeddings x = Play.laid("m0,10,9;w1,7,3;p0,1;");
        x.wed(0, 1, 0);
        return x.person(0, 5);
    }

    private static void promise7() {
        part("promise 7");
        PrisonWeddings x = new PrisonWeddings();
        x.leave(2);
        x.wed(2, 2, 5);
        x.leave(2);
        is("lines", x.parson(2, 2), 3);
        is("blank", x.parson(2, 3), 2);
        is("paid", x.parson(2, 4), 5);
        x.pass(6);
        x.fill(2, 0, 2, 3);
        is("paid for a filling", x.parson(2, 4), 13);
        is("blank then", x.parson(2, 3), 1);
        x.strike(2, 1);
        is("nothing is paid back", x.parson(2, 4), 13);
        is("lines stay", x.parson(2, 2), 3);
        is("others", x.parson(1, 4), 0);
        is("what 5", x.parson(0, 5), BAD);
        is("what -1", x.parson(0, -1), BAD);
        is("parson 3", x.parson(3, 0), BAD);
        is("parson -1", x.parson(-1, 0), BAD);
    }

    private static void promise8() {
        part("promise 8");
        PrisonWeddings x = new PrisonWeddings();
        x.pass(2);
        x.leave(1);
        x.wed(1, 3, 0);
        x.pass(3);
        lineIs(x, 1, 0, new int[] {2, NONE, NONE, 1, 0, NONE});
        lineIs(x, 1, 1, new int[] {2, 0, 3, 0, 1, 2});
        x.fill(1, 0, 3, 2);
        lineIs(x, 1, 0, new int[] {2, 2, 3, 0, 1, 5});
        lineIs(x, 1, 1, new int[] {2, 0, 3, 0, 0, 2});
        x.strike(1, 0);
        lineIs(x, 1, 0, new int[] {2, NONE, NONE, 0, 0, NONE});
        lineIs(x, 1, 1, new int[] {2, 0, 3, 0, 1, 2});
        is("line 2", x.line(1, 2, 0), BAD);
        is("line -1", x.line(1, -1, 0), BAD);
        is("line 8", x.line(1, 8, 0), BAD);
        is("parson 3", x.line(3, 0, 0), BAD);
        is("parson -1", x.line(-1, 0, 0), BAD);
        is("what 6", x.line(1, 0, 6), BAD);
        is("what -1", x.line(1, 0, -1), BAD);
    }

    private static void lineIs(PrisonWeddings x, int p, int l, int[] wants) {
        for (int what = 0; what < wants.length; what++) {
            is("line " + p + " " + l + " " + what, x.line(p, l, what), wants[what]);
        }
    }

    private static void promise9() {
        part("promise 9");
        PrisonWeddings x = Play.laid("m0,1,3;w0,1,4;w2,1,60;m2,1,0;w1,0,0;m1,0,1;p0,7;p1,8;p2,1;l4;");
        is("alike", x.wed(0, 1, 1), BAD);
        is("person 6", x.wed(0, 1, 6), BAD);
        is("person -1", x.wed(0, -1, 1), BAD);
        is("parson 3", x.wed(3, 0, 1), BAD);
        is("parson -1", x.wed(-1, 0, 1), BAD);
        is("two men", x.wed(0, 0, 3), NO);
        is("two women", x.wed(0, 1, 2), NO);
        is("heiress and sailor", x.wed(0, 0, 2), NO);
        is("heiress and debtor", x.wed(0, 2, 5), NO);
        is("can not pay 8", x.wed(1, 0, 1), NO);
        is("nothing paid", x.person(0, 3) + x.person(1, 3), 7);
        is("can pay 7", x.wed(0, 1, 0), 0);
        is("his coins", x.person(0, 3), 0);
        is("hers", x.person(1, 3), 0);
        is("heiress and lord", x.wed(0, 2, 3), 1);
        is("her coins", x.person(2, 3), 53);
        is("wed again", x.wed(1, 3, 2), 0);
        is("undoable", x.count(8), 3);
        for (int l = 2; l < 8; l++) {
            is("line " + l, x.wed(0, 3, 2), l);
        }
        is("8 lines", x.wed(0, 3, 2), NO);
        lawAndRoom();
    }

    private static void lawAndRoom() {
        PrisonWeddings x = Play.laid("m2,1,60;w0,1,60;m0,1,0;w0,1,0;p0,1;p1,0;l4;");
        for (int l = 0; l < 8; l++) {
            is("line " + l, x.wed(0, 0, 1), l);
        }
        is("full", x.wed(0, 0, 1), FULL);
        is("full, but can not pay", x.wed(0, 2, 3), NO);
        is("full, but bad", x.wed(0, 0, 0), BAD);
        is("for nothing", x.wed(1, 2, 3), 0);
        x.pass(3);
        is("a day ahead of the law", x.wed(1, 2, 3), 1);
        x.pass(1);
        is("the law", x.wed(1, 2, 3), NO);
        is("the law, ahead of full", x.wed(0, 0, 1), NO);
        is("he pays", x.person(0, 3), 52);
        is("she does not", x.person(1, 3), 60);
    }

    private static void promise10() {
        part("promise 10");
        PrisonWeddings x = Play.laid("m0,9,60;w0,1,60;p0,1;p1,1;p2,1;l3;");
        is("plain", x.leave(0), NO);
        is("sly", x.leave(1), 0);
        is("sly again", x.leave(1), 1);
        is("sly, 2 are blank", x.leave(1), NO);
        is("parson 3", x.leave(3), BAD);
        is("parson -1", x.leave(-1), BAD);
        x.fill(1, 0, 0, 1);
        is("sly, one is filled", x.leave(1), 2);
        for (int l = 0; l < 8; l++) {
            is("bold " + l, x.leave(2), l);
        }
        is("bold, full", x.leave(2), FULL);
        for (int l = 3; l < 8; l++) {
            is("wed " + l, x.wed(1, 0, 1), l);
        }
        is("sly, full, 2 are blank", x.leave(1), NO);
        x.fill(1, 1, 0, 1);
        is("sly, full", x.leave(1), FULL);
        x.pass(2);
        is("full still", x.leave(2), FULL);
        x.pass(1);
        is("the law", x.leave(2), NO);
        is("nothing is paid for it", x.parson(2, 4), 0);
    }

    private static void promise11() {
        part("promise 11");
        PrisonWeddings x = Play.laid("m0,9,8;w0,1,5;w2,0,60;m2,1,1;w1,1,0;p1,3;p2,3;l3;");
        x.leave(0);
        x.leave(0);
        x.leave(1);
        x.leave(1);
        x.wed(1, 3, 2);
        x.pass(5);
        is("alike", x.fill(0, 0, 1, 1), BAD);
        is("line 2", x.fill(0, 2, 0, 1), BAD);
        is("line -1", x.fill(0, -1, 0, 1), BAD);
        is("parson 2", x.fill(2, 0, 0, 1), BAD);
        is("person 5", x.fill(0, 0, 5, 1), BAD);
        is("person -1", x.fill(0, 0, 0, -1), BAD);
        is("two women", x.fill(0, 0, 1, 2), NO);
        is("heiress and sailor", x.fill(0, 0, 0, 2), NO);
        is("not blank", x.fill(1, 2, 0, 1), NO);
        is("can not pay", x.fill(0, 0, 3, 4), NO);
        is("sly, behind the law", x.fill(0, 0, 1, 0), 8);
        is("his coins", x.person(0, 3), 0);
        is("hers", x.person(1, 3), 5);
        is("bold, half of 5", x.fill(1, 0, 1, 0), 5);
        is("her coins", x.person(1, 3), 0);
        is("written on", x.line(1, 0, 5), 5);
        is("filled is not blank", x.fill(1, 0, 2, 3), NO);
        x.strike(1, 0);
        is("struck is not blank", x.fill(1, 0, 2, 3), NO);
        is("heiress and lord", x.fill(0, 1, 2, 3), 8);
        is("not again", x.count(6), 1);
    }

    private static void promise12() {
        part("promise 12");
        PrisonWeddings x = new PrisonWeddings();
        x.wed(1, 0, 3);
        x.wed(0, 2, 3);
        x.wed(0, 1, 4);
        x.leave(1);
        is("blank", x.strike(1, 1), NO);
        is("line 2", x.strike(1, 2), BAD);
        is("line -1", x.strike(1, -1), BAD);
        is("parson 3", x.strike(3, 0), BAD);
        is("holds", x.count(5), 2);
        is("struck, the other holds", x.strike(0, 0), 2);
        is("mate", x.mate(3, 0), 0);
        is("of nobody", x.strike(0, 0), NO);
        is("struck", x.strike(1, 0), 1);
        is("coins stay paid", x.person(2, 3), 48);
        is("lines of two", x.count(4), 1);
    }

    private static void promise13() {
        part("promise 13");
        PrisonWeddings x = new PrisonWeddings();
        is("0", x.pass(0), BAD);
        is("31", x.pass(31), BAD);
        is("-1", x.pass(-1), BAD);
        is("1", x.pass(1), 1);
        is("30", x.pass(30), 31);
        is("day", x.count(2), 31);
        for (int i = 1; i <= 40; i++) {
            is("on", x.pass(30), 31 + 30 * i);
        }
    }

    private static void promise14() {
        part("promise 14");
        PrisonWeddings x = new PrisonWeddings();
        is("nothing", x.undo(), NO);
        x.leave(2);
        x.wed(0, 0, 3);
        x.pass(30);
        x.fill(2, 0, 2, 6);
        x.strike(0, 0);
        is("undoable", x.count(8), 5);
        is("strike undone", x.undo(), 4);
        is("two again", x.line(0, 0, 2), 3);
        is("fill undone", x.undo(), 3);
        is("blank again", x.line(2, 0, 3), 1);
        is("coins again", x.person(2, 3), 50);
        is("not paid", x.parson(2, 4), 0);
        is("days undone", x.undo(), 2);
        is("day", x.count(2), 0);
        is("wedding undone", x.undo(), 1);
        is("coins again", x.person(0, 3), 5);
        is("no line", x.parson(0, 2), 0);
        is("leaving undone", x.undo(), 0);
        is("no line", x.parson(2, 2), 0);
        is("no more", x.undo(), NO);
        for (int i = 0; i < 11; i++) {
            x.pass(1);
        }
        is("8 at most", x.count(8), 8);
        for (int i = 7; i >= 0; i--) {
            is("undone", x.undo(), i);
        }
        is("the last 8", x.undo(), NO);
        is("day 3", x.count(2), 3);
        refusedIsNotUndone();
    }

    private static void refusedIsNotUndone() {
        PrisonWeddings x = new PrisonWeddings();
        x.wed(0, 0, 1);
        x.wed(9, 0, 1);
        x.leave(0);
        x.fill(0, 0, 0, 3);
        x.strike(0, 0);
        x.pass(31);
        x.see(0, 3, 0, true);
        x.keep();
        is("nothing to be undone", x.undo(), NO);
        is("seen", x.count(7), 1);
    }

    private static void promise15() {
        part("promise 15");
        PrisonWeddings x = new PrisonWeddings();
        x.pass(3);
        x.leave(2);
        x.pass(4);
        x.wed(0, 0, 3);
        is("by day 6", x.mate(0, 6), NONE);
        is("by day 7", x.mate(0, 7), 3);
        is("hers", x.mate(3, 999), 0);
        x.fill(2, 0, 2, 3);
        is("her day of old", x.mate(3, 3), 2);
        is("by the day ahead", x.mate(3, 2), NONE);
        is("he has none", x.mate(0, 999), NONE);
        is("day -1", x.mate(0, -1), BAD);
        is("day 1000", x.mate(0, 1000), BAD);
        is("person 7", x.mate(7, 0), BAD);
        is("person -1", x.mate(-1, 0), BAD);
        sameDayByParson();
    }

    private static void sameDayByParson() {
        PrisonWeddings x = new PrisonWeddings();
        x.wed(1, 0, 3);
        x.wed(1, 2, 3);
        is("by line", x.mate(3, 0), 0);
        x.wed(0, 2, 3);
        is("by parson", x.mate(3, 0), 2);
        is("the line that held", x.line(1, 0, 4), 0);
        is("free by it", x.mate(0, 9), NONE);
        x.wed(2, 0, 6);
        is("one ahead that holds not takes nobody", x.mate(0, 9), 6);
    }

    private static void promise16and17() {
        part("promises 16, 17");
        PrisonWeddings x = Play.laid("m2,0,60;m2,0,60;m2,0,60;w0,0,60;w0,0,60;w0,0,60;p0,0;p0,0;");
        x.wed(0, 0, 3);
        is("once", x.twice(), 0);
        is("none false", x.falseOnes(), 0);
        x.wed(0, 0, 4);
        is("a man twice", x.twice(), 1);
        is("one false", x.falseOnes(), 1);
        x.wed(0, 1, 3);
        is("two twice", x.twice(), 1 + 8);
        is("one struck is enough", x.falseOnes(), 1);
        x.wed(1, 1, 3);
        is("alike", x.twice(), 1 + 2 + 8);
        is("the same two", x.falseOnes(), 2);
        x.wed(1, 2, 3);
        x.wed(1, 2, 4);
        is("all", x.twice(), 1 + 2 + 4 + 8 + 16);
        is("three men, two women", x.falseOnes(), 4);
        x.wed(1, 2, 5);
        is("a third woman", x.falseOnes(), 4);
        x.strike(0, 1);
        is("one struck, a man less can be wed", x.falseOnes(), 4);
        x.strike(1, 0);
        is("struck ones do not count", x.falseOnes(), 3);
        is("nor for twice", x.twice(), 4 + 8);
    }

    private static void promise18() {
        part("promise 18");
        PrisonWeddings x = Play.laid("m0,9,60;w0,0,60;p1,4;p2,4;p0,6;l9;");
        is("wedding", x.date(0, 0, 0), 4);
        is("wedding, the next one", x.date(0, 0, 1), 8);
        x.leave(0);
        is("blank one today, as dear", x.date(0, 0, 1), 0);
        x.pass(2);
        is("today the wedding", x.date(0, 2, 1), 8);
        is("its price", x.date(0, 2, 0), 4);
        is("yesterday", x.date(0, 1, 1), 0);
        is("its price", x.date(0, 1, 0), 6);
        x.leave(0);
        is("on day 1 the older", x.date(0, 1, 1), 0);
        is("on day 2 the younger", x.date(0, 2, 1), 1);
        is("ahead of tomorrow", x.date(0, 999, 0), 4);
        is("plain, yesterday", x.date(2, 1, 0), NONE);
        is("plain, yesterday", x.date(2, 1, 1), NONE);
        x.leave(1);
        x.pass(1);
        is("bold, one day half", x.date(1, 2, 0), 4);
        is("bold, the lowest of several", x.date(1, 3, 1), 0);
        x.pass(7);
        is("law: the blank one", x.date(1, 10, 0), 8);
        is("law: the younger", x.date(0, 10, 1), 1);
        is("law: its price", x.date(0, 10, 0), 12);
        is("law: none", x.date(2, 999, 1), NONE);
        is("day -1", x.date(0, -1, 0), BAD);
        is("day 1000", x.date(0, 1000, 0), BAD);
        is("what 2", x.date(0, 0, 2), BAD);
        is("what -1", x.date(0, 0, -1), BAD);
        is("parson 3", x.date(3, 0, 0), BAD);
        is("parson -1", x.date(-1, 0, 0), BAD);
        is("what, ahead of none", x.date(2, 1, 2), BAD);
        dateWithoutRoom();
    }

    private static void dateWithoutRoom() {
        PrisonWeddings x = Play.laid("m0,9,60;w0,0,60;p2,1;");
        x.leave(0);
        for (int l = 1; l < 8; l++) {
            x.wed(0, 0, 1);
        }
        x.pass(4);
        is("no room: the blank one", x.date(0, 4, 1), 0);
        is("its price", x.date(0, 4, 0), 3);
        x.fill(0, 0, 0, 1);
        is("no room, none blank", x.date(0, 4, 1), NONE);
    }

    private static void promise19() {
        part("promise 19");
        PrisonWeddings x = new PrisonWeddings();
        x.leave(1);
        is("blank ones", x.look(0), 0);
        x.wed(2, 0, 3);
        x.wed(2, 1, 4);
        is("one book", x.look(0), 1);
        is("the third", x.look(1), 4);
        x.wed(0, 2, 5);
        is("two books", x.look(0), 2);
        is("first and third", x.look(1), 5);
        x.wed(1, 2, 6);
        is("one that holds not", x.look(1), 5);
        is("what 2", x.look(2), BAD);
        is("what -1", x.look(-1), BAD);
    }

    private static void promise20() {
        part("promise 20");
        PrisonWeddings x = Play.laid("m0,0,1;w0,0,2;m2,0,9;w2,0,60;w1,0,5;p0,7;p0,6;l2;");
        is("sailor", x.can(0), 16);
        is("maid", x.can(1), 4);
        is("lord", x.can(2), 2 + 8 + 16);
        is("heiress", x.can(3), 4);
        is("widow", x.can(4), 1 + 4);
        is("person 5", x.can(5), BAD);
        is("person -1", x.can(-1), BAD);
        for (int l = 0; l < 8; l++) {
            x.wed(1, 2, 3);
        }
        is("no room at the cheap one", x.can(0), 0);
        is("wed already, room at the other", x.can(3), 4);
        x.pass(1);
        is("a day ahead", x.can(3), 4);
        x.pass(1);
        is("the law", x.can(3), 0);
    }

    private static void promise21and22() {
        part("promises 21, 22");
        PrisonWeddings x = new PrisonWeddings();
        is("nothing", x.forget(), 0);
        is("alike", x.see(1, 1, 0, true), BAD);
        is("person 7", x.see(1, 7, 0, true), BAD);
        is("person -1", x.see(-1, 1, 0, true), BAD);
        is("day -1", x.see(0, 3, -1, true), BAD);
        is("day 100", x.see(0, 3, 100, true), BAD);
        is("day 99", x.see(0, 3, 99, true), 1);
        is("two men", x.see(0, 1, 0, false), 2);
        for (int i = 3; i <= 6; i++) {
            is("the same again", x.see(0, 3, 99, true), i);
        }
        is("full", x.see(0, 3, 99, true), FULL);
        is("full, but bad", x.see(0, 3, 100, true), BAD);
        is("seen", x.count(7), 6);
        is("forget", x.forget(), 6);
        is("seen", x.count(7), 0);
        is("again", x.see(3, 0, 0, false), 1);
    }

    private static void promise23() {
        part("promise 23");
        PrisonWeddings x = new PrisonWeddings();
        is("nothing is seen", x.trueBy(0), 256);
        x.wed(1, 0, 3);
        x.leave(1);
        x.wed(0, 2, 4);
        is("any will do", x.trueBy(0), 256 + 2);
        is("the first by parson", x.trueBy(1), 0);
        x.see(3, 0, 0, true);
        is("as it is, and without the other", x.trueBy(0), 256 + 1);
        is("the other", x.trueBy(1), 0);
        x.see(2, 4, 5, true);
        is("as it is only", x.trueBy(0), 256);
        is("none", x.trueBy(1), NONE);
        x.forget();
        x.see(0, 3, 0, false);
        is("without the first alone", x.trueBy(0), 1);
        is("parson 1, line 0", x.trueBy(1), 10);
        x.wed(1, 2, 3);
        is("the line of two behind the blank one", x.trueBy(0), 1);
        x.forget();
        x.see(2, 3, 9, true);
        is("neither", x.trueBy(0), 0);
        x.strike(0, 0);
        is("without 10 it holds", x.trueBy(0), 1);
        is("which", x.trueBy(1), 10);
        x.forget();
        x.see(0, 3, 0, true);
        is("line 12", x.trueBy(1), 12);
        is("what 2", x.trueBy(2), BAD);
        is("what -1", x.trueBy(-1), BAD);
        byDays();
    }

    private static void byDays() {
        PrisonWeddings x = new PrisonWeddings();
        x.pass(5);
        x.wed(0, 0, 3);
        x.see(0, 3, 4, false);
        x.see(0, 3, 5, true);
        is("by its day", x.trueBy(0), 256);
        x.see(0, 1, 99, true);
        is("two men never", x.trueBy(0), 0);
    }

    private static void promise24() {
        part("promise 24");
        PrisonWeddings x = new PrisonWeddings();
        x.wed(0, 0, 3);
        x.leave(1);
        x.leave(2);
        x.leave(2);
        is("wedding", x.hand(0, 0), 7);
        is("blank", x.hand(1, 0), NO);
        x.fill(1, 0, 2, 4);
        is("filled on its day", x.hand(1, 0), 7);
        x.pass(1);
        x.fill(2, 0, 2, 3);
        is("filled a day behind", x.hand(2, 0), 6);
        x.strike(2, 0);
        is("of nobody", x.hand(2, 0), NO);
        is("line 1", x.hand(0, 1), BAD);
        is("line -1", x.hand(0, -1), BAD);
        is("parson 3", x.hand(3, 0), BAD);
        is("parson -1", x.hand(-1, 0), BAD);
    }

    private static void promise25() {
        part("promise 25");
        PrisonWeddings x = new PrisonWeddings();
        x.pass(4);
        x.wed(0, 0, 3);
        is("day 12", x.child(3, 12), 0);
        is("day 13", x.child(3, 13), 1);
        is("day 999", x.child(3, 999), 1);
        is("day 0", x.child(3, 0), 0);
        is("without a mate", x.child(4, 999), 0);
        is("a man", x.child(0, 20), BAD);
        is("day -1", x.child(3, -1), BAD);
        is("day 1000", x.child(3, 1000), BAD);
        is("person 7", x.child(7, 20), BAD);
        is("person -1", x.child(-1, 20), BAD);
    }

    private static void chance(PrisonWeddings x, int n, int tens, int above, int below) {
        is("touts " + n + " " + tens + " above", x.touts(n, tens, 0), above);
        is("touts " + n + " " + tens + " below", x.touts(n, tens, 1), below);
    }

    private static void promise26() {
        part("promise 26");
        PrisonWeddings x = Play.laid("m0,0,3;w0,0,0;w2,0,60;m2,0,9;w1,0,0;p0,3;l5;");
        chance(x, 0, 7, 1, 1);
        chance(x, 1, 0, 0, 1);
        chance(x, 1, 1, 271, 1000);
        chance(x, 2, 5, 1, 2);
        chance(x, 2, 10, 1, 1);
        chance(x, 3, 10, 0, 1);
        chance(x, 8, 10, 0, 1);
        x.wed(0, 3, 4);
        chance(x, 1, 0, 1, 1);
        chance(x, 2, 3, 3, 10);
        chance(x, 2, 4, 2, 5);
        chance(x, 3, 10, 0, 1);
        for (int l = 1; l < 7; l++) {
            x.wed(0, 3, 2);
        }
        chance(x, 2, 3, 3, 10);
        x.wed(0, 3, 2);
        chance(x, 2, 3, 0, 1);
        is("n 9", x.touts(9, 1, 0), BAD);
        is("n -1", x.touts(-1, 1, 0), BAD);
        is("x 11", x.touts(1, 11, 0), BAD);
        is("x -1", x.touts(1, -1, 0), BAD);
        is("part 2", x.touts(1, 1, 2), BAD);
        is("part -1", x.touts(1, 1, -1), BAD);
        is("nothing changes", x.count(4), 8);
        toutsEdges();
    }

    private static void toutsEdges() {
        PrisonWeddings x = Play.laid("w0,0,9;w0,0,9;w0,0,9;m0,0,9;m0,0,9;m0,0,9;p2,1;p0,1;l5;");
        for (int l = 0; l < 6; l++) {
            x.leave(0);
        }
        chance(x, 2, 10, 1, 1);
        chance(x, 3, 10, 0, 1);
        chance(x, 2, 1, 7, 250);
        x.pass(5);
        chance(x, 1, 10, 0, 1);
        PrisonWeddings all = Play.laid("w0,0,9;w0,0,9;w0,0,9;w0,0,9;w0,0,9;w0,0,9;w0,0,9;w0,0,9;p0,0;");
        chance(all, 0, 3, 1, 1);
        chance(all, 1, 3, 0, 1);
    }

    private static void promise27() {
        part("promise 27");
        PrisonWeddings x = new PrisonWeddings();
        is("holds", x.gaol(5, 40, 0), 3);
        is("coins", x.gaol(5, 40, 1), 31);
        is("z 0, n 1: alike, so no wedding", x.gaol(0, 1, 0), 0);
        is("z 0, n 1: no coins", x.gaol(0, 1, 1), 0);
        is("z 9999", x.gaol(9999, 1, 0), aDayOf(9999));
        is("z 3", x.gaol(3, 1, 0), aDayOf(3));
        is("z -1", x.gaol(-1, 1, 0), BAD);
        is("z 10000", x.gaol(10000, 1, 0), BAD);
        is("n 0", x.gaol(0, 0, 0), BAD);
        is("n 41", x.gaol(0, 41, 0), BAD);
        is("what 2", x.gaol(0, 1, 2), BAD);
        is("what -1", x.gaol(0, 1, -1), BAD);
        is("day", x.count(2), 0);
        is("lines", x.parson(0, 2) + x.parson(1, 2) + x.parson(2, 2), 0);
        is("nothing is undone", x.undo(), NO);
        x.wed(0, 0, 3);
        x.pass(30);
        is("behind the law those that hold", x.gaol(9999, 40, 0), 1);
        is("behind the law no coins", x.gaol(9999, 40, 1), 0);
    }

    /** The first day of a GAOL, from the document's words alone, for a new object. */
    private static int aDayOf(int z) {
        long x = 7919L * z + 1;
        int drawn = (int) (x * x % 65521);
        return new PrisonWeddings().wed(drawn % 3, drawn / 4 % 7, drawn / 32 % 7) == 0 ? 1 : 0;
    }

    private static void promise28and29() {
        part("promises 28, 29");
        PrisonWeddings x = new PrisonWeddings();
        is("nothing", x.back(), NO);
        x.wed(0, 0, 3);
        is("keep", x.keep(), 1);
        x.pass(2);
        x.strike(0, 0);
        is("keep", x.keep(), 2);
        is("full", x.keep(), FULL);
        is("kept", x.count(9), 2);
        x.pass(3);
        x.wed(0, 2, 5);
        x.see(0, 3, 1, true);
        x.write('q');
        is("back", x.back(), 1);
        is("day", x.count(2), 2);
        is("lines of two", x.count(4), 0);
        is("seen stays", x.count(7), 1);
        is("text stays", x.count(10), 1);
        is("nothing is undone", x.undo(), NO);
        is("back again", x.back(), 0);
        is("day", x.count(2), 0);
        is("mate", x.mate(0, 0), 3);
        is("coins", x.person(0, 3), 3);
        is("paid", x.parson(0, 4), 2);
        is("no more", x.back(), NO);
        is("kept", x.count(9), 0);
        is("keep anew", x.keep(), 1);
    }

    private static void promise30() {
        part("promise 30");
        PrisonWeddings x = new PrisonWeddings();
        x.wed(0, 0, 3);
        x.wed(1, 2, 3);
        x.leave(1);
        x.leave(2);
        x.pass(2);
        x.see(0, 3, 1, true);
        x.keep();
        Play.writeAll(x, "xyz");
        int[] wants = {7, 3, 2, 30, 2, 1, 2, 1, 5, 1, 3};
        for (int what = 0; what < wants.length; what++) {
            is("count " + what, x.count(what), wants[what]);
        }
        is("count -1", x.count(-1), BAD);
        is("count 11", x.count(11), BAD);
        x.strike(0, 0);
        is("of two", x.count(4), 1);
        is("that hold", x.count(5), 1);
    }
}
