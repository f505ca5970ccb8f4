import java.util.NoSuchElementException;

/** Each promise by hand: what is usual, the edges, wrong inputs. */
public final class PromiseTest {
    private static final Check CHECK = new Check();
    private static final int NONE = OathWalls.NONE;

    /** Two bear ten each; s is on a alone, t on both, u on nobody's word. */
    private static final String TWO = "person p faith 7 tempt 6;person q faith 4 tempt 0;"
            + "oath a plain by p bears 10;oath b plain by q bears 10;"
            + "stone s weighs 8 rent 5 on a;stone t weighs 8 rent 3 on a b;stone u weighs 0 rent 9;";

    private static OathWalls of(String text) {
        OathWalls walls = new OathWalls();
        CHECK.is(text, Check.city(walls, text), 0);
        return walls;
    }

    private static void is(String what, long got, long due) {
        CHECK.is(what, got, due);
    }

    private static void is(String what, boolean got, boolean due) {
        CHECK.is(what, got, due);
    }

    private static void promise1() {
        OathWalls walls = new OathWalls();
        for (int what = 0; what <= 12; what++) {
            is("new count " + what, walls.count(what), 0);
        }
        is("new person", walls.person(0, 0), NONE);
        is("new oath", walls.oath(0, 0), NONE);
        is("new stone", walls.stone(0, 0), NONE);
        is("new breaks", walls.breaks(0), NONE);
        is("new forgive", walls.forgive(0), false);
        is("new raise", walls.raise(0), false);
        is("new undo", walls.undo(), false);
        is("new weakest", walls.weakest(0), NONE);
        is("new sure", walls.sure(0), NONE);
        is("new surest", walls.surest(0, 1), NONE);
        is("new keep", walls.keep(), 0);
        is("new repair", walls.repair(1, 0), NONE);
        is("new hear", walls.hear(0, true), false);
        is("new broken", walls.broken(0, 0), 1);
        is("new broken in all", walls.broken(0, 1), 0);
        is("new broken parts", walls.broken(0, 3), NONE);
        is("new mark back", walls.mark(0, true), false);
        is("new centuries", walls.centuries(0, 100, 2), 0);
        is("new city", walls.city(), 0);
    }

    private static void promise2() {
        OathWalls walls = new OathWalls();
        is("nothing", walls.feed(0, 0, 0), 0);
        is("others are left out", walls.feed(0x80ff7f1f09000b0dL, -1L, Long.MIN_VALUE), 0);
        is("edges", walls.feed(0x0a20217e0a0a0a7fL, 0x41L, 0x4100000000000000L), 9);
        for (int i = 0; i < 60; i++) {
            walls.feed(0x2020202020202020L, 0x2020202020202020L, 0x2020202020202020L);
        }
        is("full", walls.feed(0x2020202020202020L, 0, 0), 1000);
        is("count 12", walls.count(12), 1000);
        is("city at ~", walls.city(), 1 + 16 * 2);
        is("taken", walls.feed(0, 0, 0x41), 1);
        OathWalls order = new OathWalls();
        order.feed(Check.eight("stone s ", 0), Check.eight("weighs 7", 0), Check.eight(" rent 2;", 0));
        is("in order", order.city(), 0);
        is("all fell", order.stone(0, 2), 0);
        is("weight", order.stone(0, 0), 7);
        // what is beyond 1,000 is left out, so that the last line has no end
        OathWalls cut = new OathWalls();
        Check.feed(cut, " ".repeat(994) + "mend 7;mend");
        is("cut off", cut.city(), 1 + 16 * 1000);
    }

    private static void promise3() {
        OathWalls walls = of(TWO);
        Check.life(walls, "year;");
        walls.hear(0, true);
        walls.years(3);
        walls.mark(1, false);
        is("a fault", Check.city(walls, "person"), 1 + 16 * 6);
        is("all stays: year", walls.count(3), 3);
        is("all stays: life", walls.count(7), 1);
        is("all stays: heard", walls.count(8), 1);
        is("all stays: undo", walls.count(11), 1);
        is("all stays: oaths", walls.count(1), 2);
        is("a city", Check.city(walls, TWO), 0);
        is("year 0", walls.count(3), 0);
        is("no life", walls.count(7), 0);
        is("nothing heard", walls.count(8), 0);
        is("no undo", walls.undo(), false);
        is("no mark", walls.mark(1, true), false);
        is("an empty tape is a city", walls.city(), 0);
        is("nobody", walls.count(0), 0);
        OathWalls heavy = of("person p faith 1 tempt 1;oath a plain by p bears 10;stone s weighs 10 rent 1 on a;"
                + "stone t weighs 1 rent 1 on a;stone u weighs 0 rent 0;");
        is("u and t fell at first", heavy.stone(2, 2) + heavy.stone(1, 2), 0);
        is("s is up", heavy.stone(0, 2), 1);
        is("u can be raised", heavy.raise(2), true);
        is("t can't", heavy.raise(1), false);
    }

    private static void promise4and13() {
        OathWalls walls = of(TWO);
        is("no life", walls.judged(0), NONE);
        is("no life", walls.judged(1), NONE);
        is("no life", walls.judged(2), 7);
        is("others", walls.judged(3), -2);
        is("others", walls.judged(-1), -2);
        is("life", Check.life(walls, "year;break b;break b;raise t;raise u;forgive a;forgive b;"), 0);
        walls.breaks(0);
        is("lines", walls.count(7), 7);
        is("first that can't be", walls.judged(0), 2);
        is("first fall", walls.judged(1), 1);
        is("at last", walls.judged(2), 5);
        is("the city is as it was", walls.count(4), 1);
        is("a new one", Check.life(walls, "forgive a;break a;"), 0);
        is("first that can't be", walls.judged(0), 0);
        is("first fall", walls.judged(1), 1);
        is("at last", walls.judged(2), 0);
        OathWalls sure = of("person p faith 1 tempt 1;oath a sure by p bears 9;stone s weighs 9 rent 1 on a;age base-(1<years);");
        is("life", Check.life(sure, "break a;raise s;year;year;year;raise s;"), 0);
        is("a sure one", sure.judged(0), 0);
        is("falls by age", sure.judged(1), 3);
        is("stays down", sure.judged(2), 0);
    }

    private static void promise5() {
        OathWalls walls = of(TWO);
        is("faith", walls.person(0, 0), 7);
        is("tempt", walls.person(0, 1), 6);
        is("oaths", walls.person(1, 2), 2);
        walls.breaks(1);
        is("oaths", walls.person(1, 2), 2);
        is("kept", walls.person(1, 3), 0);
        is("others", walls.person(2, 0), NONE);
        is("others", walls.person(-1, 0), NONE);
        is("others", walls.person(0, 4), NONE);
        is("others", walls.person(0, -1), NONE);
    }

    private static void promise6() {
        OathWalls walls = of("person p faith 1 tempt 1;person q faith 1 tempt 1;oath a plain by p bears 9;oath b old by p bears 8;"
                + "oath c sure by q bears 7;oath d widow by q bears 6;oath e widow by p bears 5;"
                + "lean d b;clash a c;clash e a;mend 7;");
        int[][] due = {{0, 0, 9, 9, 0, 0, -1, 20}, {1, 0, 8, 13, 0, 0, 3, 0}, {2, 1, 7, 7, 0, 0, -1, 1},
            {3, 1, 6, 11, 0, 0, 1, 0}, {3, 0, 5, 5, 0, 0, -1, 1}};
        for (int o = 0; o < 5; o++) {
            for (int what = 0; what < 8; what++) {
                is("oath " + o + " " + what, walls.oath(o, what), due[o][what]);
            }
            is("others", walls.oath(o, 8), NONE);
            is("others", walls.oath(o, -1), NONE);
        }
        is("others", walls.oath(5, 0), NONE);
        is("others", walls.oath(-1, 3), NONE);
        walls.years(4);
        is("an old one ages", walls.oath(1, 3), 17);
        walls.breaks(3);
        is("it leant on a broken one", walls.oath(1, 3), 0);
        is("it is broken", walls.oath(3, 3), 0);
        walls.forgive(3);
        is("forgiven: 6 * 7 / 10 + 5", walls.oath(3, 3), 9);
        is("forgiven", walls.oath(3, 5), 1);
        walls.breaks(3);
        is("forgiven once stays so", walls.oath(3, 5), 1);
        is("and broken", walls.oath(3, 4), 1);
        walls.forgive(3);
        walls.breaks(0);
        walls.breaks(1);
        is("a widow alone", walls.oath(4, 3), 10);
        walls.years(100);
        walls.forgive(1);
        is("an old one forgiven: 112 * 7 / 10 + 5", walls.oath(1, 3), 83);
        laws();
    }

    private static void law(String law, int due) {
        OathWalls walls = of("person p faith 1 tempt 1;oath a widow by p bears 7;oath b plain by p bears 7;age " + law + ";mend 3;");
        walls.years(2);
        is(law, walls.oath(0, 3), due);
    }

    private static void laws() {
        law("2+3*4", 14);
        law("(2+3)*4", 20);
        law("10-3-2", 5);
        law("10-3*2+1", 5);
        law("1<2", 1);
        law("2<2", 0);
        law("3=3", 1);
        law("not 0", 1);
        law("not 5+1", 1);
        law("not(5-5)*4", 4);
        law("not not 7", 1);
        law("not not not not 9", 1);
        law("1 or 0 and 0", 0);
        law("0 and 0 or 1", 1);
        law("5 and 7", 1);
        law("0 or 4", 1);
        law("1+1<3 and 2*2=4", 1);
        law("0-1 and 1", 1);
        law("base*years+kind+alone", 17);
        law("0-1", 0);
        law("9999", 999);
        law("999", 999);
        law("1000", 999);
        law("9999*9999*9999", 0);
        law("9999*9999*9999<0", 1);
        law("9999*9999*22", 0);
        law("9999*9999*43*base-9999*9999*301+5", 5);
        law("((((8))))", 8);
        law("1-(2-(3-(4-5)))", 3);
        law("1-(2-(3-(4-0)))", 0);
        law("9-(2-(3-(4-0)))", 6);
        OathWalls alone = of("person p faith 1 tempt 1;oath a widow by p bears 7;oath b plain by p bears 7;age 2000*alone+base;mend 3;"
                + "oath c plain by p bears 9;lean a b;");
        alone.breaks(2);
        is("not alone", alone.oath(0, 3), 12);
        alone.breaks(1);
        is("it leans on a broken one", alone.oath(0, 3), 0);
        alone.forgive(1);
        alone.breaks(0);
        alone.forgive(0);
        is("forgiven 7 * 3 / 10 + 5", alone.oath(0, 3), 7);
        OathWalls top = of("person p faith 1 tempt 1;person q faith 1 tempt 1;oath a widow by p bears 7;oath b plain by q bears 7;age 2000*alone;"
                + "lean a b;");
        is("999 and 5 more", top.oath(0, 3), 1004);
        top.breaks(0);
        top.forgive(0);
        is("half of 999, cut, and 5 more", top.oath(0, 3), 504);
        OathWalls aged = of("person p faith 1 tempt 1;oath a old by p bears 99;");
        for (int i = 0; i < 10; i++) {
            aged.years(100);
        }
        is("999 at the most without a law, too", aged.oath(0, 3), 999);
    }

    private static void promise7() {
        OathWalls walls = of(TWO + "stone v weighs 2 rent 1 on t;stone w weighs 0 rent 1 on v u b;");
        int[][] due = {{8, 5, 1, 1, 0}, {8, 3, 1, 3, 0}, {0, 9, 1, 0, 0}, {2, 1, 1, 3, 2}, {0, 1, 1, 3, 12}};
        for (int s = 0; s < 5; s++) {
            for (int what = 0; what < 5; what++) {
                is("stone " + s + " " + what, walls.stone(s, what), due[s][what]);
            }
            is("others", walls.stone(s, 5), NONE);
            is("others", walls.stone(s, -1), NONE);
        }
        is("others", walls.stone(5, 0), NONE);
        is("others", walls.stone(-1, 3), NONE);
        walls.breaks(1);
        is("up", walls.count(5), 1);
        is("v is not up, nor is t: on nothing", walls.stone(3, 3), 0);
        is("t is down: as if it were up", walls.stone(1, 3), 3);
        is("w by itself", walls.stone(4, 3), 2);
        is("told as ever", walls.stone(3, 4), 2);
    }

    private static void promises8to10() {
        OathWalls walls = of(TWO + "oath c sure by q bears 1;");
        is("a sure one", walls.breaks(2), NONE);
        is("others", walls.breaks(3), NONE);
        is("others", walls.breaks(-1), NONE);
        is("others", walls.breaks(32), NONE);
        is("not broken", walls.forgive(1), false);
        is("t falls, and u that is told last", walls.breaks(1), 6);
        is("broken already", walls.breaks(1), NONE);
        is("up", walls.raise(0), false);
        is("it would not stand", walls.raise(1), false);
        is("on nobody's word", walls.raise(2), true);
        is("up now", walls.raise(2), false);
        is("others", walls.raise(3), false);
        is("others", walls.raise(-1), false);
        is("others", walls.raise(32), false);
        is("others", walls.forgive(-1), false);
        is("others", walls.forgive(3), false);
        is("others", walls.forgive(33), false);
        is("forgiven", walls.forgive(1), true);
        is("not broken", walls.forgive(1), false);
        is("half of it", walls.oath(1, 3), 5);
        is("8 + 8 on 10 + 5", walls.raise(1), false);
        is("all falls", walls.breaks(0), 5);
        is("what can be undone", walls.count(11), 4);
        // forgiving makes a widow weaker
        OathWalls widow = of("person p faith 1 tempt 1;oath a plain by p bears 1;oath b widow by p bears 9;"
                + "stone s weighs 9 rent 1 on b;stone t weighs 6 rent 1 on b;mend 0;");
        is("t fell at first", widow.stone(1, 2), 0);
        is("nothing falls", widow.breaks(0), 0);
        is("18 now", widow.oath(1, 3), 18);
        is("so t can be raised", widow.raise(1), true);
        is("forgiven", widow.forgive(0), true);
        is("and t fell", widow.stone(1, 2), 0);
        // a stone raised below others gives them what it rests on
        OathWalls bridge = of("person p faith 1 tempt 1;oath a plain by p bears 5;oath b plain by p bears 5;"
                + "stone s weighs 0 rent 0 on b;stone t weighs 8 rent 0 on s a;");
        is("t rests on both", bridge.stone(1, 2), 1);
        is("t falls without b", bridge.breaks(1), 2);
        // shares have to be moved over to let a later stone in
        OathWalls shares = of("person p faith 1 tempt 1;oath a plain by p bears 5;oath b plain by p bears 5;oath c plain by p bears 5;"
                + "stone s weighs 5 rent 0 on a b;stone t weighs 5 rent 0 on b c;stone u weighs 5 rent 0 on a;stone v weighs 1 rent 0 on a b c;");
        is("all but v", shares.count(5), 3);
        is("all is borne", shares.bears(), 15);
    }

    private static void promise11() {
        OathWalls walls = of("person p faith 1 tempt 1;oath a plain by p bears 50;age base-years;"
                + "stone s weighs 40 rent 1 on a;stone t weighs 9 rent 1 on a;");
        is("others", walls.years(0), NONE);
        is("others", walls.years(-1), NONE);
        is("others", walls.years(101), NONE);
        is("nothing yet", walls.years(1), 0);
        is("t", walls.years(2), 2);
        is("s", walls.years(100), 1);
        is("year", walls.count(3), 103);
        is("undo counts calls", walls.count(11), 3);
        is("undone", walls.undo(), true);
        is("in one", walls.count(3), 3);
        // in between a stone can't be borne, at the end it could: it stays down
        OathWalls gap = of("person p faith 1 tempt 1;oath a plain by p bears 9;age base*not(years=2);stone s weighs 9 rent 1 on a;");
        is("it fell in one of them", gap.years(5), 1);
        is("down", gap.stone(0, 2), 0);
        is("till it is raised", gap.raise(0), true);
    }

    private static void promise12() {
        OathWalls walls = of(TWO);
        for (int i = 0; i < 20; i++) {
            walls.years(1);
        }
        is("sixteen", walls.count(11), 16);
        for (int i = 0; i < 16; i++) {
            is("undo " + i, walls.undo(), true);
            is("year", walls.count(3), 19 - i);
            is("left", walls.count(11), 15 - i);
        }
        is("no more", walls.undo(), false);
        is("year 4", walls.count(3), 4);
        walls.breaks(1);
        walls.raise(2);
        walls.breaks(1);
        walls.forgive(5);
        walls.years(0);
        walls.forgive(1);
        is("what was not done is not undone", walls.count(11), 3);
        Check.life(walls, "year;");
        walls.hear(0, true);
        walls.undo();
        is("broken again", walls.oath(1, 4), 1);
        is("not forgiven", walls.oath(1, 5), 0);
        is("u is up", walls.stone(2, 2), 1);
        walls.undo();
        is("u is not", walls.stone(2, 2), 0);
        walls.undo();
        is("all up", walls.count(5), 3);
        is("kept", walls.count(4), 0);
        is("the life stays", walls.count(7), 1);
        is("what is heard stays", walls.count(8), 1);
        is("nothing", walls.undo(), false);
    }

    private static void promises14to17() {
        OathWalls walls = of(TWO);
        is("bears", walls.bears(), 16);
        is("none", walls.stands(0), 7);
        is("a: s can't be, and all told behind it", walls.stands(1), 0);
        is("b", walls.stands(2), 1);
        is("both", walls.stands(3), 0);
        is("others", walls.stands(4), NONE);
        is("others", walls.stands(-1), NONE);
        is("all is as it was", walls.count(5), 3);
        is("weakest", walls.weakest(0), 1);
        is("weakest: of equal ones the least", walls.weakest(1), 1);
        is("others", walls.weakest(3), NONE);
        is("others", walls.weakest(-1), NONE);
        is("sure", walls.sure(0), 700000);
        is("sure", walls.sure(1), 280000);
        is("sure", walls.sure(2), 280000);
        is("others", walls.sure(3), NONE);
        is("others", walls.sure(-1), NONE);
        walls.breaks(1);
        is("bears", walls.bears(), 8);
        is("down", walls.weakest(1), NONE);
        is("down", walls.sure(1), NONE);
        is("broken already", walls.stands(2), 1);
        OathWalls sure = of("person p faith 3 tempt 1;oath a sure by p bears 9;oath b plain by p bears 9;oath c plain by p bears 9;"
                + "stone s weighs 9 rent 1 on a;stone t weighs 9 rent 1 on b c;");
        is("a sure one does not break", sure.stands(7), 1);
        is("none does", sure.weakest(0), NONE);
        is("both", sure.weakest(1), 6);
        is("surely", sure.sure(0), 1000000);
        is("as p", sure.sure(1), 300000);
        StringBuilder six = new StringBuilder();
        for (char c = 'a'; c < 'g'; c++) {
            six.append("person ").append(c).append(" faith 1 tempt 1;oath o").append(c).append(" plain by ").append(c).append(" bears 1;");
        }
        OathWalls exact = of(six + "stone s weighs 6 rent 0 on oa ob oc od oe of;stone t weighs 0 rent 0;");
        is("a millionth", exact.sure(0), 1);
        is("t is told behind it", exact.sure(1), 1);
        OathWalls any = of(six + "stone s weighs 1 rent 0 on oa ob oc od oe of;");
        is("all but 9^6", any.sure(0), 468559);
        is("all six", any.weakest(0), 63);
        // breaking makes a widow stronger: fewer is not always weaker
        OathWalls widow = of("person p faith 4 tempt 1;oath a plain by p bears 9;oath b widow by p bears 5;"
                + "stone s weighs 10 rent 1 on a b;");
        is("9 + 5", widow.bears(), 10);
        is("10 alone", widow.stands(1), 1);
        is("9", widow.stands(2), 0);
        is("weakest", widow.weakest(0), 2);
    }

    private static void promise18() {
        OathWalls walls = of(TWO);
        is("others", walls.surest(-1, 0), NONE);
        is("others", walls.surest(100, 0), NONE);
        is("others", walls.surest(1, 2), NONE);
        is("others", walls.surest(1, -1), NONE);
        is("chance", walls.surest(2, 0), 280000);
        is("on a", walls.surest(2, 1), 1);
        is("on b: t moves over to a", walls.surest(3, 1), 2);
        is("on b", walls.surest(4, 1), 2);
        is("21 on 20", walls.surest(5, 0), NONE);
        is("21 on 20", walls.surest(5, 1), NONE);
        is("no weight: the least", walls.surest(0, 1), 1);
        OathWalls bare = of("person p faith 9 tempt 1;person q faith 5 tempt 1;oath a plain by q bears 9;oath b plain by p bears 9;oath c plain by p bears 9;"
                + "oath d plain by q bears 9;");
        is("one of p or one of q", bare.surest(9, 0), 950000);
        is("one of p or one of q", bare.surest(9, 1), 3);
        is("two of p", bare.surest(10, 1), 6);
        is("two of p", bare.surest(10, 0), 900000);
        is("two", bare.surest(18, 1), 6);
        is("too much for two", bare.surest(19, 1), NONE);
        bare.breaks(1);
        is("c is left of p", bare.surest(9, 1), 5);
        bare.breaks(2);
        is("q", bare.surest(9, 1), 1);
        is("q", bare.surest(9, 0), 500000);
        is("either", bare.surest(18, 1), 9);
        OathWalls or = of("person p faith 9 tempt 1;person q faith 5 tempt 1;oath a plain by p bears 9;oath b plain by q bears 9;");
        is("one or the other", or.surest(9, 0), 950000);
        is("one or the other", or.surest(9, 1), 3);
        OathWalls never = of("person p faith 0 tempt 1;oath a plain by p bears 9;");
        is("it stands now", never.surest(9, 0), 0);
        is("it stands now", never.surest(9, 1), 1);
        // what would stand only when others break does not count: it has to stand now, too
        OathWalls later = of("person p faith 5 tempt 1;oath a sure by p bears 5;oath b plain by p bears 1;age base+10*alone;");
        is("5 + 1 now", later.surest(7, 1), NONE);
        is("6 now, 15 then", later.surest(6, 0), 1000000);
        is("6 now, 15 then", later.surest(6, 1), 3);
    }

    private static void promise19() {
        is("no clash", of(TWO).keep(), 0);
        String four = "person p faith 5 tempt 1;oath a plain by p bears 5;oath b plain by p bears 5;oath c plain by p bears 5;oath d sure by p bears 5;";
        is("the least", of(four + "clash b c;").keep(), 2);
        is("one for both", of(four + "clash a c;clash b c;").keep(), 4);
        is("a sure one stays", of(four + "clash d c;").keep(), 4);
        is("b must not fall", of(four + "clash a b;stone s weighs 5 rent 1 on a;").keep(), 2);
        is("it can't be", of(four + "clash a b;stone s weighs 10 rent 1 on a b;").keep(), NONE);
        is("two sure ones", of(four + "oath e sure by p bears 5;clash d e;").keep(), NONE);
        OathWalls walls = of(four + "clash a b;clash b c;clash c d;");
        is("two", walls.keep(), 5);
        walls.breaks(1);
        is("one more", walls.keep(), 4);
        walls.breaks(2);
        is("no more", walls.keep(), 0);
        // one alone can't be, two can: a widow left alone bears more
        is("more than the fewest that end it", of("person p faith 5 tempt 1;person q faith 5 tempt 1;oath a plain by p bears 5;oath b widow by p bears 5;"
                + "oath c plain by p bears 1;oath d plain by q bears 9;clash a d;stone s weighs 10 rent 1 on a b;stone t weighs 9 rent 1 on d;").keep(), 5);
    }

    private static void promise20() {
        OathWalls walls = of(TWO + "oath c plain by q bears 20;stone v weighs 10 rent 1 on c;");
        is("nothing is broken", walls.repair(1, 0), NONE);
        walls.breaks(2);
        is("forgiven, half of 20", walls.repair(1, 0), 26);
        is("c", walls.repair(1, 1), 2);
        is("others", walls.repair(1, 2), NONE);
        is("others", walls.repair(1, -1), NONE);
        is("others", walls.repair(0, 0), NONE);
        is("others", walls.repair(4, 0), NONE);
        is("fewer", walls.repair(2, 0), NONE);
        walls.breaks(1);
        is("v rather than t", walls.repair(1, 0), 18);
        is("v rather than t", walls.repair(1, 1), 2);
        is("both: t stays down", walls.repair(2, 0), 18);
        is("both: the first row", walls.repair(2, 1), 1);
        is("both: the first row", walls.repair(2, 2), 2);
        is("the city is as it was", walls.count(4), 2);
        is("fewer", walls.repair(3, 0), NONE);
        walls.breaks(0);
        is("three", walls.repair(3, 0), 18);
        is("three", walls.repair(3, 1), 0);
        is("three", walls.repair(3, 2), 1);
        is("three", walls.repair(3, 3), 2);
        // what is raised in the first year is in the way of more in the second
        OathWalls order = of("person p faith 1 tempt 1;oath a plain by p bears 9;oath b plain by p bears 2;"
                + "stone t weighs 10 rent 1 on a b;stone s weighs 3 rent 1 on a;mend 10;");
        order.breaks(0);
        order.breaks(1);
        is("b first", order.repair(2, 0), 10);
        is("b first", order.repair(2, 1), 1);
        is("b first", order.repair(2, 2), 0);
        // behind the last apology a year passes, and what it lets fall is not raised
        OathWalls late = of("person p faith 1 tempt 1;oath a plain by p bears 9;stone s weighs 9 rent 1 on a;mend 10;age base*(years<1);");
        late.breaks(0);
        is("it falls in the year", late.repair(1, 0), 0);
        is("the first row", late.repair(1, 1), 0);
    }

    private static void promises21and22() {
        OathWalls walls = of(TWO);
        is("nothing heard", walls.broken(10, 0), 4);
        is("nothing heard", walls.broken(10, 2), 3);
        is("others", walls.hear(3, true), false);
        is("others", walls.hear(-1, true), false);
        is("heard", walls.hear(1, false), true);
        is("sets", walls.broken(2, 0), 3);
        is("in all", walls.broken(2, 1), 0);
        is("in some", walls.broken(2, 2), 3);
        is("s tells", walls.broken(2, 3), 0);
        is("one at most", walls.broken(1, 0), 2);
        is("none at all", walls.broken(0, 0), NONE);
        is("none at all", walls.broken(0, 1), NONE);
        is("none at all", walls.broken(0, 3), NONE);
        is("others", walls.broken(11, 0), NONE);
        is("others", walls.broken(-1, 0), NONE);
        is("others", walls.broken(2, 4), NONE);
        is("others", walls.broken(2, -1), NONE);
        is("heard", walls.hear(0, true), true);
        is("b alone", walls.broken(2, 0), 1);
        is("b alone", walls.broken(2, 1), 2);
        is("b alone", walls.broken(2, 2), 2);
        is("none parts them", walls.broken(2, 3), NONE);
        for (int i = 0; i < 8; i++) {
            is("heard again", walls.hear(0, true), true);
        }
        is("ten", walls.count(8), 10);
        is("eleven", walls.hear(0, true), false);
        is("ten", walls.count(8), 10);
        walls.breaks(1);
        is("t is down now by itself", walls.broken(0, 0), 1);
        OathWalls against = of(TWO);
        against.hear(0, true);
        against.hear(0, false);
        is("it can't be", against.broken(10, 0), NONE);
        OathWalls even = of("person p faith 1 tempt 1;oath a plain by p bears 5;oath b plain by p bears 5;oath c sure by p bears 5;"
                + "stone s weighs 1 rent 1 on a b;stone t weighs 1 rent 1 on a;");
        is("t: two up, two down; s: three up", even.broken(9, 3), 1);
        is("a sure one is in none", even.broken(9, 0), 4);
    }

    private static void promises23and24() {
        OathWalls walls = of(TWO);
        int[][] due = {{8, 3}, {6, 0}, {5, 0}, {6, 0}};
        for (int choices = 0; choices < 4; choices++) {
            for (int p = 0; p < 2; p++) {
                is("gains " + p + " " + choices, walls.gains(p, choices), due[choices][p]);
            }
        }
        is("rests", walls.rests(NONE), 2);
        is("first", walls.rests(0), 0);
        is("second", walls.rests(1), 3);
        is("others", walls.rests(2), NONE);
        is("others", walls.rests(-2), NONE);
        is("others", walls.rests(Integer.MIN_VALUE), NONE);
        is("others", walls.rests(Integer.MAX_VALUE), NONE);
        int[][] wrong = {{2, 0}, {-1, 0}, {0, 4}, {0, -1}, {1, Integer.MIN_VALUE}};
        for (int[] w : wrong) {
            boolean thrown = false;
            try {
                walls.gains(w[0], w[1]);
            } catch (NoSuchElementException e) {
                thrown = true;
            }
            is("gains throws " + w[0] + " " + w[1], thrown, true);
        }
        walls.breaks(0);
        is("tempt, though there be nothing to break", walls.gains(0, 1), 6);
        OathWalls sure = of("person p faith 1 tempt 2;oath a sure by p bears 5;oath b plain by p bears 5;stone s weighs 1 rent 7 on a b;"
                + "stone t weighs 1 rent 4 on b;");
        is("both rents", sure.gains(0, 0), 11);
        is("a is sure: s stays, and tempt", sure.gains(0, 1), 9);
        is("he keeps", sure.rests(0), 0);
        OathWalls last = of("person p faith 1 tempt 0;stone s weighs 0 rent 7;");
        is("equal is at rest, too", last.rests(NONE), 2);
        // a stone up then that rests on a broken oath of his only gives him nothing
        OathWalls light = of("person p faith 1 tempt 1;person q faith 1 tempt 1;oath a plain by p bears 5;oath b plain by q bears 5;stone s weighs 3 rent 9 on a b;");
        is("p broke his", light.gains(0, 1), 1);
        is("q kept his", light.gains(1, 1), 9);
    }

    private static void promise25() {
        OathWalls walls = of("person p faith 0 tempt 1;oath a plain by p bears 5;oath b sure by p bears 5;oath c plain by p bears 5;"
                + "stone s weighs 5 rent 1 on a;stone t weighs 1 rent 1 on b;");
        is("one year", walls.centuries(7, 1, 0), 1);
        is("both fell", walls.centuries(7, 1, 1), 2);
        is("t was raised", walls.centuries(7, 1, 2), 2);
        is("two", walls.centuries(7, 2, 0), 2);
        is("no more to break", walls.centuries(7, 100, 0), 2);
        is("others", walls.centuries(-1, 1, 0), NONE);
        is("others", walls.centuries(10000, 1, 0), NONE);
        is("others", walls.centuries(0, 0, 0), NONE);
        is("others", walls.centuries(0, 101, 0), NONE);
        is("others", walls.centuries(0, 1, 3), NONE);
        is("others", walls.centuries(0, 1, -1), NONE);
        is("all is as ahead", walls.count(4) + walls.count(3) + walls.count(11), 0);
        is("all is as ahead", walls.count(5), 2);
        OathWalls true10 = of("person p faith 10 tempt 1;oath a plain by p bears 5;stone s weighs 5 rent 1 on a;");
        is("he keeps", true10.centuries(9999, 100, 0), 0);
        is("it stays", true10.centuries(9999, 100, 2), 1);
        true10.breaks(0);
        is("in the end he is forgiven: 2 of 5", true10.centuries(1, 100, 2), 0);
        // seed 0: g = 12345, 1406932606, 654583775, ...: draws 0, 8, 8, ...
        OathWalls drawn = of("person p faith 9 tempt 1;oath a plain by p bears 5;oath b plain by p bears 5;stone s weighs 5 rent 1 on a;mend 10;");
        drawn.breaks(0);
        is("the draw is 0: forgiven and raised", drawn.centuries(0, 1, 2), 1);
        OathWalls eight = of("person p faith 8 tempt 1;oath a plain by p bears 5;oath b plain by p bears 5;");
        is("0", eight.centuries(0, 1, 0), 0);
        is("0 8", eight.centuries(0, 2, 0), 1);
        OathWalls nine = of("person p faith 9 tempt 1;oath a plain by p bears 5;oath b plain by p bears 5;");
        is("0 8", nine.centuries(0, 2, 0), 0);
    }

    private static void promise26() {
        OathWalls walls = of(TWO);
        is("none such", walls.mark(4, false), false);
        is("none such", walls.mark(-1, false), false);
        is("none such", walls.mark(4, true), false);
        is("nothing is on it", walls.mark(3, true), false);
        walls.breaks(1);
        walls.forgive(1);
        walls.years(5);
        walls.hear(0, true);
        Check.life(walls, "year;year;");
        is("laid", walls.mark(3, false), true);
        is("undo stays", walls.count(11), 3);
        walls.breaks(0);
        walls.years(7);
        walls.hear(1, false);
        Check.life(walls, "");
        is("back", walls.mark(3, true), true);
        is("year", walls.count(3), 5);
        is("broken", walls.count(4), 0);
        is("forgiven", walls.oath(1, 5), 1);
        is("up", walls.count(5), 1);
        is("life", walls.count(7), 2);
        is("heard", walls.count(8), 1);
        is("nothing can be undone", walls.count(11), 0);
        is("nothing can be undone", walls.undo(), false);
        is("heard up alone", walls.broken(9, 0), 2);
        walls.years(1);
        is("it stays there", walls.mark(3, true), true);
        is("year", walls.count(3), 5);
        is("not the others", walls.mark(0, true), false);
        walls.years(1);
        is("laid again", walls.mark(3, false), true);
        walls.mark(3, true);
        is("year", walls.count(3), 6);
    }

    private static void promise27() {
        OathWalls walls = of(TWO + "oath c old by q bears 3;clash a c;clash b a;lean c b;");
        walls.breaks(1);
        walls.years(3);
        walls.hear(2, true);
        Check.life(walls, "year;break a;");
        Check.feed(walls, "abc");
        int[] due = {2, 3, 3, 3, 1, 1, 8, 2, 1, 1, 2, 2, 3};
        for (int what = 0; what < due.length; what++) {
            is("count " + what, walls.count(what), due[what]);
        }
        is("others", walls.count(13), NONE);
        is("others", walls.count(-1), NONE);
    }

    public static void main(String[] args) {
        promise1();
        promise2();
        promise3();
        promise4and13();
        promise5();
        promise6();
        promise7();
        promises8to10();
        promise11();
        promise12();
        promises14to17();
        promise18();
        promise19();
        promise20();
        promises21and22();
        promises23and24();
        promise25();
        promise26();
        promise27();
        CHECK.end();
    }
}
