import java.util.Random;

/** What is looked at, stands, falls, is done and undone: a test for each sentence that names a boundary. */
public final class BoundaryDeedTest {
    private static final Check CHECK = new Check();
    private static final int NONE = OathWalls.NONE;
    private static final int[] OTHERS = {-1, -2, 11, 31, 32, 33, 64, 1 << 16, Integer.MAX_VALUE, Integer.MIN_VALUE};
    private static final String P = "person p faith 1 tempt 1;";
    private static final String AB = P + "oath a plain by p bears 10;oath b plain by p bears 10;";

    private static void is(String what, long got, long due) {
        CHECK.is(what, got, due);
    }

    private static void is(String what, boolean got, boolean due) {
        CHECK.is(what, got, due);
    }

    private static void nothing() {
        CHECK.sentence("1", "Nothing. At first: nothing");
        OathWalls walls = new OathWalls();
        for (int what = 0; what <= 12; what++) {
            is("count " + what, walls.count(what), 0);
        }
        for (int i = -1; i <= 10; i++) {
            for (int what = 0; what <= 7; what++) {
                is("person", walls.person(i, what), NONE);
                is("oath", walls.oath(i, what), NONE);
                is("stone", walls.stone(i, what), NONE);
            }
            is("breaks", walls.breaks(i), NONE);
            is("forgive", walls.forgive(i), false);
            is("raise", walls.raise(i), false);
            is("weakest", walls.weakest(i), NONE);
            is("sure", walls.sure(i), NONE);
            is("hear", walls.hear(i, i > 3), false);
            is("mark back", walls.mark(i, true), false);
            is("repair", walls.repair(i, 0), NONE);
        }
        is("undo", walls.undo(), false);
        is("no line", walls.judged(0), NONE);
        is("no line", walls.judged(1), NONE);
        is("no stone", walls.judged(2), 0);
        is("bears", walls.bears(), 0);
        is("stands", walls.stands(0), 0);
        is("bits of others", walls.stands(1), NONE);
        is("surest", walls.surest(0, 0), NONE);
        is("surest", walls.surest(0, 1), NONE);
        is("keep", walls.keep(), 0);
        is("the empty set", walls.broken(0, 0), 1);
        is("nobody chooses", walls.rests(NONE), 1);
        is("nobody breaks", walls.rests(0), 0);
        is("years", walls.years(100), 0);
        is("a year is told", walls.count(3), 100);
        is("marked", walls.mark(0, false), true);
        is("undone", walls.undo(), true);
        is("year 0", walls.count(3), 0);
        is("gone back to", walls.mark(0, true), true);
        is("year 100", walls.count(3), 100);
        is("a life of years", Check.life(walls, "year;"), 0);
        is("none falls", walls.judged(1), NONE);
        is("a new one", new OathWalls().count(3), 0);
    }

    private static void looks() {
        CHECK.sentence("5", "what 0 to 3; NONE: others");
        OathWalls walls = CHECK.of("person p faith 0 tempt 99;person q faith 10 tempt 0;person r faith 3 tempt 3;oath a plain by q bears 1;"
                + "oath b sure by p bears 1;oath c old by q bears 1;stone s weighs 3 rent 2 on a c;stone t weighs 0 rent 99 on s;");
        walls.breaks(2);
        int[][] people = {{0, 99, 2, 2}, {10, 0, 5, 1}, {3, 3, 0, 0}};
        for (int p = 0; p < 3; p++) {
            for (int what = 0; what < 4; what++) {
                is("person " + p + " " + what, walls.person(p, what), people[p][what]);
            }
            is("what 4", walls.person(p, 4), NONE);
            is("what -1", walls.person(p, -1), NONE);
            is("what the least", walls.person(p, Integer.MIN_VALUE), NONE);
            is("what the most", walls.person(p, Integer.MAX_VALUE), NONE);
        }
        is("the third is the last", walls.person(3, 0), NONE);
        CHECK.sentence("6", "what 0 to 7; NONE: others");
        for (int o = 0; o < 3; o++) {
            is("what 8", walls.oath(o, 8), NONE);
            is("what -1", walls.oath(o, -1), NONE);
            is("what the least", walls.oath(o, Integer.MIN_VALUE), NONE);
            is("what the most", walls.oath(o, Integer.MAX_VALUE), NONE);
        }
        is("the third is the last", walls.oath(3, 0), NONE);
        CHECK.sentence("7", "what 0 to 4; NONE: others");
        for (int s = 0; s < 2; s++) {
            is("what 5", walls.stone(s, 5), NONE);
            is("what -1", walls.stone(s, -1), NONE);
            is("what the least", walls.stone(s, Integer.MIN_VALUE), NONE);
            is("what the most", walls.stone(s, Integer.MAX_VALUE), NONE);
        }
        is("the second is the last", walls.stone(2, 0), NONE);
        for (int other : OTHERS) {
            for (int what = 0; what < 8; what++) {
                is("stone " + other, walls.stone(other, what), NONE);
                is("oath " + other, walls.oath(other, what), NONE);
                is("person " + other, walls.person(other, what), NONE);
            }
        }
    }

    private static void oathLooks() {
        CHECK.sentence("6", "4: 1 broken, 5: 1 forgiven (once)");
        OathWalls walls = CHECK.of(AB);
        is("kept", walls.oath(0, 4) + walls.oath(0, 5), 0);
        walls.breaks(0);
        is("broken", walls.oath(0, 4), 1);
        is("not forgiven", walls.oath(0, 5), 0);
        walls.forgive(0);
        is("kept", walls.oath(0, 4), 0);
        is("forgiven", walls.oath(0, 5), 1);
        walls.breaks(0);
        is("broken", walls.oath(0, 4), 1);
        is("forgiven once", walls.oath(0, 5), 1);
        walls.forgive(0);
        is("twice", walls.oath(0, 5), 1);
        is("not the other one", walls.oath(1, 4) + walls.oath(1, 5), 0);
        walls.undo();
        walls.undo();
        walls.undo();
        is("undone", walls.oath(0, 5), 0);
        is("undone", walls.oath(0, 4), 1);
        each();
        CHECK.sentence("6", "6: on which it leans (NONE: none), 7: with which it clashes as bits");
        StringBuilder ten = new StringBuilder(P);
        for (char c = 'a'; c < 'k'; c++) {
            ten.append("oath ").append(c).append(" plain by p bears 1;");
        }
        OathWalls most = CHECK.of(ten + "lean j a;lean e d;clash j a;clash a b;clash a c;clash a d;clash i a;");
        int[] leans = {9, NONE, NONE, 4, 3, NONE, NONE, NONE, NONE, 0};
        int[] clashes = {2 + 4 + 8 + 256 + 512, 1, 1, 1, 0, 0, 0, 0, 1, 1};
        for (int o = 0; o < 10; o++) {
            is("leans " + o, most.oath(o, 6), leans[o]);
            is("clashes " + o, most.oath(o, 7), clashes[o]);
        }
        is("pairs", most.count(9) * 10 + most.count(10), 25);
    }

    /** Each of ten oaths is broken, forgiven and looked at for itself. */
    private static void each() {
        StringBuilder ten = new StringBuilder(P);
        for (char c = 'a'; c < 'k'; c++) {
            ten.append("oath ").append(c).append(" plain by p bears 1;");
        }
        OathWalls walls = CHECK.of(ten.toString());
        for (int o = 0; o < 10; o++) {
            is("breaks " + o, walls.breaks(o), 0);
            for (int other = 0; other < 10; other++) {
                is("broken " + other, walls.oath(other, 4), other <= o ? 1 : 0);
            }
            is("those kept", walls.person(0, 3), 1023 & ~((2 << o) - 1));
        }
        for (int o = 0; o < 10; o++) {
            is("forgive " + o, walls.forgive(o), true);
            for (int other = 0; other < 10; other++) {
                is("forgiven " + other, walls.oath(other, 5), other <= o ? 1 : 0);
                is("kept " + other, walls.oath(other, 4), other <= o ? 0 : 1);
            }
        }
    }

    private static void restsOn() {
        CHECK.sentence("7", "3: OATHS on which it rests (of one that is down as if it were up), 4: STONES it is told to be on");
        OathWalls walls = CHECK.of(AB + "oath c plain by p bears 10;stone s weighs 1 rent 0 on a;stone t weighs 1 rent 0 on s;"
                + "stone u weighs 1 rent 0 on t b;stone v weighs 0 rent 0;stone w weighs 0 rent 0 on v u;");
        int[] up = {1, 1, 3, 0, 3};
        int[] below = {0, 1, 2, 0, 12};
        for (int s = 0; s < 5; s++) {
            is("up " + s, walls.stone(s, 3), up[s]);
            is("on " + s, walls.stone(s, 4), below[s]);
        }
        walls.breaks(0);
        is("s down and all behind it", walls.count(5), 0);
        int[] down = {1, 0, 2, 0, 0};
        for (int s = 0; s < 5; s++) {
            is("down " + s, walls.stone(s, 3), down[s]);
            is("on " + s, walls.stone(s, 4), below[s]);
            is("is up " + s, walls.stone(s, 2), 0);
        }
        is("u", walls.raise(2), true);
        is("w, as if it were up, by u", walls.stone(4, 3), 2);
        is("t, by s that is down", walls.stone(1, 3), 0);
        is("a broken one is rested on, too", walls.stone(0, 3), 1);
    }

    private static void stand() {
        CHECK.sentence("3", "STONES STAND if all they weigh can be borne at once, no OATH by more than its STRENGTH");
        is("10 on 10", CHECK.of(AB + "stone s weighs 10 rent 0 on a;").count(5), 1);
        is("11 on 10", CHECK.of(AB + "stone s weighs 11 rent 0 on a;").count(5), 0);
        is("0 on nothing", CHECK.of("stone s weighs 0 rent 0;").count(5), 1);
        is("1 on nothing", CHECK.of("stone s weighs 1 rent 0;").count(5), 0);
        is("99 on 99", CHECK.of(P + "oath a plain by p bears 99;stone s weighs 99 rent 0 on a;").count(5), 1);
        is("10 and 1 on 10", CHECK.of(AB + "stone s weighs 10 rent 0 on a;stone t weighs 1 rent 0 on a;").count(5), 1);
        is("10 and 0 on 10", CHECK.of(AB + "stone s weighs 10 rent 0 on a;stone t weighs 0 rent 0 on a;").count(5), 2);
        CHECK.sentence("3", "what it weighs can be borne by any of these in any shares");
        is("20 on both", CHECK.of(AB + "stone s weighs 20 rent 0 on a b;").count(5), 1);
        is("21 on both", CHECK.of(AB + "stone s weighs 21 rent 0 on a b;").count(5), 0);
        is("13 and 7", CHECK.of(AB + "stone s weighs 13 rent 0 on a b;stone t weighs 7 rent 0 on a;").count(5), 2);
        is("13 and 8", CHECK.of(AB + "stone s weighs 13 rent 0 on a b;stone t weighs 8 rent 0 on a;").count(5), 1);
        is("each moves over", CHECK.of(AB + "oath c plain by p bears 10;stone s weighs 10 rent 0 on a b;stone t weighs 10 rent 0 on b c;"
                + "stone u weighs 10 rent 0 on a;").count(5), 3);
        is("one that moved another one moves, too", CHECK.of(P + "oath a plain by p bears 5;oath b plain by p bears 5;oath c plain by p bears 5;"
                + "oath d plain by p bears 5;stone r weighs 5 rent 0 on c d;stone s weighs 5 rent 0 on a b;stone t weighs 5 rent 0 on a c;"
                + "stone u weighs 5 rent 0 on b;").count(5), 4);
        is("a row of ten moves over", CHECK.of(row()).count(5), 10);
        for (int seed = 1; seed <= 4000; seed++) {
            shares(new Random(seed));
        }
        CHECK.sentence("3", "by those of its STONES that are up and what these rest on, and so on");
        is("by two", CHECK.of(AB + "stone s weighs 0 rent 0 on a;stone t weighs 0 rent 0 on s;stone u weighs 10 rent 0 on t;").count(5), 3);
        is("by nothing", CHECK.of(AB + "stone s weighs 0 rent 0;stone t weighs 1 rent 0 on s;").count(5), 1);
        OathWalls walls = CHECK.of(AB + "stone s weighs 8 rent 0 on a;stone t weighs 8 rent 0 on s b;");
        is("on a and b", walls.stone(1, 3), 3);
        is("both fall", walls.breaks(0), 3);
        is("s is down, t stands by b", walls.raise(1), true);
        is("on b", walls.stone(1, 3), 2);
        is("b", walls.breaks(1), 2);
    }

    /**
     * Some stones can be borne if and only if each some of them weigh no more than all bears that
     * they rest on: so the first stones of a random city that can't be borne are known.
     */
    private static void shares(Random random) {
        int oaths = 3 + random.nextInt(5);
        int stones = 4 + random.nextInt(6);
        int[] bears = new int[oaths];
        int[] weighs = new int[stones];
        int[] on = new int[stones];
        StringBuilder text = new StringBuilder(P);
        for (int o = 0; o < oaths; o++) {
            bears[o] = 1 + random.nextInt(9);
            text.append("oath o").append((char) ('a' + o)).append(" plain by p bears ").append(bears[o]).append(';');
        }
        for (int s = 0; s < stones; s++) {
            weighs[s] = random.nextInt(8);
            text.append("stone s").append((char) ('a' + s)).append(" weighs ").append(weighs[s]).append(" rent 0 on");
            while (on[s] == 0) {
                on[s] = random.nextInt(1 << oaths) & random.nextInt(1 << oaths);
            }
            for (int o = 0; o < oaths; o++) {
                text.append((on[s] >> o & 1) != 0 ? " o" + (char) ('a' + o) : "");
            }
            text.append(';');
        }
        int up = 0;
        while (up < stones && canBeBorne(up + 1, weighs, on, bears)) {
            up++;
        }
        is("the first so many", CHECK.of(text.toString()).count(5), up);
    }

    private static boolean canBeBorne(int stones, int[] weighs, int[] on, int[] bears) {
        for (int some = 1; some < 1 << stones; some++) {
            int weight = 0;
            int rest = 0;
            for (int s = 0; s < stones; s++) {
                weight += (some >> s & 1) != 0 ? weighs[s] : 0;
                rest |= (some >> s & 1) != 0 ? on[s] : 0;
            }
            for (int o = 0; o < bears.length; o++) {
                weight -= (rest >> o & 1) != 0 ? bears[o] : 0;
            }
            if (weight > 0) {
                return false;
            }
        }
        return true;
    }

    /** Ten oaths bear 1, nine stones lie on two neighbours each, and the last one only on the first. */
    private static String row() {
        StringBuilder text = new StringBuilder(P);
        for (char c = 'a'; c < 'k'; c++) {
            text.append("oath ").append(c).append(" sure by p bears 1;");
        }
        for (char c = 'a'; c < 'j'; c++) {
            text.append("stone s").append(c).append(" weighs 1 rent 0 on ").append(c).append(' ').append((char) (c + 1)).append(';');
        }
        return text + "stone z weighs 1 rent 0 on a;";
    }

    private static void fall() {
        CHECK.sentence("8", "FALL: while those up do not STAND, the last one told of these is down");
        OathWalls walls = CHECK.of(AB + "stone s weighs 10 rent 0 on a;stone t weighs 10 rent 0 on b;stone u weighs 0 rent 0;");
        is("a: all, though only s can't be", walls.breaks(0), 7);
        is("nothing is left to fall", walls.breaks(1), 0);
        OathWalls last = CHECK.of(AB + "stone s weighs 10 rent 0 on a;stone t weighs 10 rent 0 on b;stone u weighs 0 rent 0;");
        is("b: t and u behind it", last.breaks(1), 6);
        is("s stays", last.stone(0, 2), 1);
        CHECK.sentence("8", "it stays down till it is raised");
        OathWalls down = CHECK.of(AB + "stone s weighs 5 rent 0 on a;stone t weighs 0 rent 0;mend 10;");
        down.breaks(0);
        down.forgive(0);
        is("s could stand, and is down", down.count(5), 0);
        down.years(1);
        is("in a year, too", down.count(5), 0);
        is("raised", down.raise(1), true);
        is("not the other one", down.count(5), 1);
        is("raised", down.raise(0), true);
        CHECK.sentence("14", "BEARS: how much of what those up weigh can be borne at the most");
        OathWalls bears = CHECK.of(AB + "stone s weighs 13 rent 0 on a b;stone t weighs 7 rent 0 on a;");
        is("all of it", bears.bears(), 20);
        bears.breaks(1);
        is("none is up", bears.bears(), 0);
        bears.raise(1);
        is("t", bears.bears(), 7);
        is("as it weighs", bears.count(6), 7);
        is("in a row", CHECK.of(row()).bears(), 10);
        is("by a stone below", CHECK.of(AB + "stone s weighs 1 rent 0 on a;stone t weighs 9 rent 0 on s;").bears(), 10);
    }

    private static void breaks() {
        CHECK.sentence("8", "BREAK an OATH that is kept (not a sure one); NONE: others, it can't be");
        OathWalls walls = CHECK.of(AB + "oath c sure by p bears 10;stone s weighs 0 rent 0;stone t weighs 10 rent 0 on b;");
        is("a sure one", walls.breaks(2), NONE);
        is("an oath that is not", walls.breaks(3), NONE);
        for (int other : OTHERS) {
            is("others " + other, walls.breaks(other), NONE);
        }
        is("none can be undone", walls.count(11), 0);
        is("none falls", walls.breaks(0), 0);
        is("broken already", walls.breaks(0), NONE);
        is("t falls", walls.breaks(1), 2);
        is("broken already", walls.breaks(1), NONE);
        is("two", walls.count(4) * 10 + walls.count(11), 22);
        is("s is up", walls.count(5), 1);
        is("forgiven", walls.forgive(0), true);
        is("and kept again", walls.breaks(0), 0);
        CHECK.sentence("8", "Behind it the FALL");
        OathWalls lean = CHECK.of(AB + "lean a b;stone s weighs 15 rent 0 on b;");
        is("a, on which b leans", lean.breaks(0), 1);
        OathWalls alone = CHECK.of(AB + "stone s weighs 9 rent 0 on b;age base-5*alone;");
        is("b is alone then", alone.breaks(0), 1);
    }

    private static void forgives() {
        CHECK.sentence("9", "FORGIVE one that is broken; false: others, it is not broken");
        OathWalls walls = CHECK.of(AB + "oath c sure by p bears 10;");
        is("kept", walls.forgive(0), false);
        is("a sure one", walls.forgive(2), false);
        is("an oath that is not", walls.forgive(3), false);
        walls.breaks(0);
        for (int other : OTHERS) {
            is("others " + other, walls.forgive(other), false);
        }
        is("the other one", walls.forgive(1), false);
        is("broken", walls.forgive(0), true);
        is("not twice", walls.forgive(0), false);
        is("two were done", walls.count(11), 2);
        CHECK.sentence("9", "it is kept, forgiven from then on");
        is("kept", walls.person(0, 3), 7);
        walls.years(3);
        is("forgiven", walls.oath(0, 5), 1);
        is("half", walls.oath(0, 3), 5);
        CHECK.sentence("9", "Behind it the FALL");
        OathWalls alone = CHECK.of(AB + "stone s weighs 9 rent 0 on b;stone t weighs 0 rent 0;age base-5*(not alone);");
        is("6 at first", alone.raise(0), false);
        is("alone", alone.breaks(0), 0);
        is("it bears 10", alone.raise(0), true);
        is("not alone", alone.forgive(0), true);
        is("both fell", alone.count(5), 0);
    }

    private static void raises() {
        CHECK.sentence("10", "RAISE a STONE that is down if it STANDS with those up; false: others, it is up, it would not STAND");
        OathWalls walls = CHECK.of(AB + "oath c plain by p bears 1;stone s weighs 10 rent 0 on a;stone t weighs 10 rent 0 on a b;"
                + "stone u weighs 1 rent 0 on c;mend 9;");
        is("up", walls.raise(0), false);
        is("no such", walls.raise(3), false);
        walls.breaks(2);
        walls.breaks(0);
        is("all down", walls.count(5), 0);
        for (int other : OTHERS) {
            is("others " + other, walls.raise(other), false);
        }
        is("s on a broken one", walls.raise(0), false);
        is("u on a broken one", walls.raise(2), false);
        is("t on b", walls.raise(1), true);
        is("up", walls.raise(1), false);
        walls.forgive(0);
        is("10 and 10 on 9 and 10", walls.raise(0), false);
        walls.breaks(1);
        is("t fell", walls.count(5), 0);
        is("10 on 9", walls.raise(1), false);
        is("three were done, and one", walls.count(11), 5);
        CHECK.sentence("10", "it STANDS with those up");
        OathWalls under = CHECK.of(AB + "stone s weighs 2 rent 0 on a;stone t weighs 9 rent 0 on b s;mend 10;");
        under.breaks(0);
        is("t", under.raise(1), true);
        is("s", under.raise(0), false);
        under.forgive(0);
        is("s below t", under.raise(0), true);
        is("t rests on a, too", under.stone(1, 3), 3);
        is("both fall with b, for 11 is more than 10: the last", under.breaks(1), 2);
    }

    private static void years() {
        CHECK.sentence("11", "So many YEARS (1 to 100); NONE: others");
        OathWalls walls = CHECK.of(AB);
        for (int many : new int[] {0, -1, 101, 102, 1000, Integer.MAX_VALUE, Integer.MIN_VALUE}) {
            is("years " + many, walls.years(many), NONE);
        }
        is("none passed", walls.count(3) + walls.count(11), 0);
        is("1", walls.years(1), 0);
        is("1", walls.count(3), 1);
        is("100", walls.years(100), 0);
        is("101", walls.count(3), 101);
        is("two are to undo", walls.count(11), 2);
        CHECK.sentence("11", "one by one: STONES that fell in them");
        OathWalls once = CHECK.of(AB + "stone s weighs 10 rent 0 on a;stone t weighs 0 rent 0;age base*(not(years=2));");
        is("behind them they could stand", once.years(3), 3);
        is("but stay down", once.count(5), 0);
        is("in these none falls", once.years(2), 0);
        is("they could stand", once.raise(0), true);
        OathWalls step = CHECK.of(AB + "stone s weighs 7 rent 0 on a;stone t weighs 5 rent 0 on b;age base-years;");
        is("not in three", step.years(3), 0);
        is("t and s in three more", step.years(3), 3);
        OathWalls edge = CHECK.of(AB + "stone s weighs 10 rent 0 on a;age base-(99<years);");
        is("in 99", edge.years(99), 0);
        is("in the hundredth", edge.years(1), 1);
        OathWalls whole = CHECK.of(AB + "stone s weighs 10 rent 0 on a;age base-(99<years);");
        is("in a hundred", whole.years(100), 1);
    }

    private static void undoes() {
        CHECK.sentence("12", "UNDO: these, one by one");
        OathWalls walls = CHECK.of(AB + "stone s weighs 10 rent 0 on a;mend 10;");
        is("nothing can be", walls.undo(), false);
        walls.breaks(0);
        walls.forgive(0);
        walls.raise(0);
        walls.years(1);
        is("four", walls.count(11), 4);
        is("the year", walls.undo(), true);
        is("0, up", walls.count(3) * 10 + walls.count(5), 1);
        is("the raising", walls.undo(), true);
        is("down, forgiven", walls.count(5) * 10 + walls.oath(0, 5), 1);
        is("the forgiving", walls.undo(), true);
        is("broken, not forgiven", walls.count(4) * 10 + walls.oath(0, 5), 10);
        is("the breaking", walls.undo(), true);
        is("kept, up", walls.count(4) * 10 + walls.count(5), 1);
        is("nothing can be", walls.undo(), false);
        is("none", walls.count(11), 0);
        CHECK.sentence("12", "the last 16");
        for (int i = 1; i <= 15; i++) {
            walls.years(1);
            is("so many", walls.count(11), i);
        }
        walls.years(1);
        is("16", walls.count(11), 16);
        walls.years(1);
        is("16 of 17", walls.count(11), 16);
        for (int year = 16; year >= 1; year--) {
            is("undone", walls.undo(), true);
            is("year", walls.count(3), year);
            is("left", walls.count(11), year - 1);
        }
        is("the first is beyond them", walls.undo(), false);
        is("year", walls.count(3), 1);
        undoneRound(walls);
        CHECK.sentence("12", "YEARS told in one are one");
        OathWalls long100 = CHECK.of(AB);
        long100.years(100);
        long100.years(7);
        is("two", long100.count(11), 2);
        long100.undo();
        is("100", long100.count(3), 100);
        long100.undo();
        is("0", long100.count(3), 0);
        CHECK.sentence("12", "BREAK, FORGIVE, RAISE, YEARS alone can be undone");
        OathWalls other = CHECK.of(AB + "stone s weighs 10 rent 0 on a;");
        other.raise(0);
        other.forgive(0);
        other.years(0);
        other.breaks(5);
        other.hear(0, true);
        other.mark(0, false);
        Check.life(other, "year;break a;");
        other.judged(2);
        other.centuries(1, 100, 2);
        other.stands(3);
        other.repair(1, 0);
        is("none of them", other.undo(), false);
        other.years(1);
        other.breaks(9);
        is("what can't be does not count", other.undo(), true);
        is("heard and the life stay", other.count(8) * 10 + other.count(7), 12);
    }

    /** Deeds and undoings in turns, far more than sixteen, against a plain row of years. */
    private static void undoneRound(OathWalls walls) {
        int[] years = new int[200];
        int size = 0;
        years[0] = walls.count(3);
        int first = 0;
        for (int i = 0; i < 120; i++) {
            if (i % 7 < 5) {
                walls.years(1 + i % 3);
                size++;
                years[size] = years[size - 1] + 1 + i % 3;
                first = Math.max(first, size - 16);
            } else {
                is("undo " + i, walls.undo(), size > first);
                size -= size > first ? 1 : 0;
            }
            is("year " + i, walls.count(3), years[size]);
            is("left " + i, walls.count(11), size - first);
        }
        for (int i = 0; i < 20; i++) {
            is("undo at last", walls.undo(), size > first);
            size -= size > first ? 1 : 0;
            is("year at last", walls.count(3), years[size]);
        }
    }

    private static void judged() {
        CHECK.sentence("13", "lines (NONE: none), -2: others");
        OathWalls walls = CHECK.of(AB + "oath c sure by p bears 1;stone s weighs 10 rent 0 on a;stone t weighs 10 rent 0 on b;");
        for (int what : new int[] {3, -1, -2, 4, Integer.MIN_VALUE, Integer.MAX_VALUE}) {
            is("what " + what, walls.judged(what), -2);
        }
        is("without a life", walls.judged(0), NONE);
        is("without a life", walls.judged(1), NONE);
        is("without a life", walls.judged(2), 3);
        Check.life(walls, "year;");
        is("all can be", walls.judged(0), NONE);
        is("none falls", walls.judged(1), NONE);
        Check.life(walls, "break b;");
        is("the first one: 0", walls.judged(1), 0);
        Check.life(walls, "raise s;");
        is("the first one: 0", walls.judged(0), 0);
        Check.life(walls, "year;".repeat(39) + "break a;");
        is("the last one: 39", walls.judged(1), 39);
        Check.life(walls, "year;".repeat(39) + "forgive a;");
        is("the last one: 39", walls.judged(0), 39);
        CHECK.sentence("13", "from the beginning");
        walls.breaks(0);
        walls.breaks(1);
        walls.years(5);
        Check.life(walls, "break b;year;");
        is("all can be", walls.judged(0), NONE);
        is("s is up", walls.judged(2), 1);
        is("now is as it was", walls.count(3) * 10 + walls.count(4), 52);
        CHECK.sentence("13", "a line that can't be is left out; the first line (from 0) that can't be");
        refused("break a;break a;", 1);
        refused("break a;break c;", 1);
        refused("forgive a;", 0);
        refused("break a;forgive b;", 1);
        refused("break b;forgive b;forgive b;", 2);
        refused("raise s;", 0);
        refused("break b;raise t;", 1);
        refused("break b;forgive b;raise t;", 2);
        refused("year;year;raise t;break c;", 2);
        Check.life(walls, "break c;break b;forgive a;raise t;forgive b;break b;break a;");
        is("all the same the others are done", walls.judged(2), 0);
        is("t fell", walls.judged(1), 1);
        CHECK.sentence("13", "the first one behind which a STONE FALLS; STONES up at last");
        Check.life(walls, "year;break b;break a;");
        is("not the second", walls.judged(1), 1);
        Check.life(walls, "break b;forgive b;break b;");
        is("t stays down", walls.judged(2), 1);
        OathWalls heavy = CHECK.of(AB + "stone s weighs 11 rent 0 on a;stone t weighs 0 rent 0;");
        Check.life(heavy, "year;raise t;");
        is("what FALLS at first is behind no line", heavy.judged(1), NONE);
        is("t was raised", heavy.judged(2), 2);
        OathWalls aged = CHECK.of(AB + "stone s weighs 10 rent 0 on a;age base-(1<years);mend 10;");
        aged.years(7);
        Check.life(aged, "year;break b;forgive b;year;");
        is("falls in its second year", aged.judged(1), 3);
        OathWalls alone = CHECK.of(AB + "stone s weighs 9 rent 0 on b;age base-5*(not alone);");
        Check.life(alone, "break a;raise s;forgive a;");
        is("falls behind an apology", alone.judged(1), 2);
        is("all can be", alone.judged(0), NONE);
    }

    private static void refused(String life, int line) {
        OathWalls walls = CHECK.of(AB + "oath c sure by p bears 1;stone s weighs 10 rent 0 on a;stone t weighs 10 rent 0 on b;");
        Check.life(walls, life);
        is(life, walls.judged(0), line);
    }

    private static void marks() {
        CHECK.sentence("26", "MARKS 0 to 3; false: none such");
        OathWalls walls = CHECK.of(AB + "stone s weighs 10 rent 0 on a;stone t weighs 0 rent 0 on b;");
        for (int mark : new int[] {-1, 4, 5, 31, 32, 33, Integer.MAX_VALUE, Integer.MIN_VALUE}) {
            is("mark " + mark, walls.mark(mark, false), false);
            is("mark back " + mark, walls.mark(mark, true), false);
        }
        CHECK.sentence("26", "false: nothing is on it (back)");
        for (int mark = 0; mark < 4; mark++) {
            is("nothing is on " + mark, walls.mark(mark, true), false);
        }
        for (int mark = 0; mark < 4; mark++) {
            walls.years(1);
            is("laid " + mark, walls.mark(mark, false), true);
            is("the next one is bare", walls.mark(mark + 1, true), false);
        }
        for (int mark = 3; mark >= 0; mark--) {
            is("gone back to " + mark, walls.mark(mark, true), true);
            is("its year", walls.count(3), mark + 1);
        }
        is("it stays", walls.mark(3, true), true);
        is("again", walls.mark(3, true), true);
        is("its year", walls.count(3), 4);
        walls.years(6);
        is("laid anew", walls.mark(3, false), true);
        walls.mark(0, true);
        walls.mark(3, true);
        is("its new year", walls.count(3), 10);
        held();
    }

    private static void held() {
        CHECK.sentence("26", "hold the year, what is broken, forgiven, up, the LIFE, what is HEARD");
        OathWalls walls = CHECK.of(AB + "stone s weighs 10 rent 0 on a;stone t weighs 0 rent 0 on b;");
        walls.mark(0, false);
        walls.breaks(1);
        walls.forgive(1);
        walls.breaks(0);
        walls.raise(1);
        walls.years(9);
        Check.life(walls, "break b;year;year;");
        walls.hear(0, false);
        walls.mark(2, false);
        is("laying one leaves what can be undone", walls.count(11), 5);
        walls.forgive(0);
        walls.raise(0);
        walls.years(1);
        Check.life(walls, "break a;");
        walls.hear(1, false);
        walls.mark(2, true);
        int[] due = {1, 2, 2, 9, 1, 1, 0, 3, 1, 0, 0, 0, 0};
        for (int what = 0; what < due.length; what++) {
            is("count " + what, walls.count(what), due[what]);
        }
        is("a is broken", walls.oath(0, 4) * 10 + walls.oath(0, 5), 10);
        is("b is forgiven", walls.oath(1, 4) * 10 + walls.oath(1, 5), 1);
        is("t is up", walls.stone(1, 2), 1);
        is("the life breaks b", walls.judged(2), 3);
        is("heard: s is down", walls.broken(10, 0), 2);
        walls.mark(0, true);
        int[] first = {1, 2, 2, 0, 0, 2, 10, 0, 0, 0, 0, 0, 0};
        for (int what = 0; what < first.length; what++) {
            is("at first, count " + what, walls.count(what), first[what]);
        }
        is("none was forgiven", walls.oath(1, 5), 0);
        is("nothing heard", walls.broken(10, 0), 4);
        heardIsHeld();
        CHECK.sentence("26", "nothing can be undone when one is gone back to");
        walls.years(1);
        walls.years(1);
        is("two can", walls.count(11), 2);
        is("a bare one changes nothing", walls.mark(1, true), false);
        is("two can", walls.count(11), 2);
        is("back", walls.mark(0, true), true);
        is("nothing", walls.undo(), false);
        walls.years(1);
        is("what comes then can", walls.undo(), true);
        is("nothing more", walls.undo(), false);
        is("year 0", walls.count(3), 0);
        for (int i = 0; i < 11; i++) {
            walls.hear(0, true);
        }
        is("ten are heard", walls.count(8), 10);
        walls.mark(0, true);
        is("of ten none", walls.count(8), 0);
        is("so one can be", walls.hear(0, true), true);
        Check.feed(walls, "mend 5;");
        walls.mark(0, true);
        is("the tape stays", walls.count(12), 7);
    }

    private static void heardIsHeld() {
        OathWalls walls = CHECK.of(AB + "stone s weighs 0 rent 0;stone t weighs 10 rent 0 on b;");
        walls.mark(0, false);
        walls.hear(1, true);
        walls.mark(1, false);
        walls.mark(0, true);
        walls.hear(1, false);
        walls.mark(2, false);
        int[] sets = {4, 2, 2};
        int[] all = {0, 0, 2};
        for (int mark = 2; mark >= 0; mark--) {
            walls.mark(mark, true);
            is("heard by mark " + mark, walls.broken(10, 0), sets[mark]);
            is("in all by mark " + mark, walls.broken(10, 1), all[mark]);
        }
    }

    private static void counts() {
        CHECK.sentence("27", "NONE for another what");
        OathWalls walls = CHECK.of(AB + "stone s weighs 10 rent 0 on a;");
        for (int what : new int[] {-1, 13, 14, 100, Integer.MAX_VALUE, Integer.MIN_VALUE}) {
            is("count " + what, walls.count(what), NONE);
        }
        CHECK.sentence("27", "12: signs on the TAPE");
        walls.feed(0x2020000000L, 0, 0);
        is("two", walls.count(12), 2);
        CHECK.sentence("27", "8: HEARD, 7: lines of the LIFE, 11: what can be undone");
        walls.hear(0, true);
        walls.hear(0, false);
        walls.hear(1, true);
        is("two heard", walls.count(8), 2);
        CHECK.sentence("27", "5: STONES up, 6: what those up weigh, 4: OATHS broken, 3: year");
        is("one up", walls.count(5) * 100 + walls.count(6), 110);
        walls.breaks(0);
        is("none up", walls.count(5) * 100 + walls.count(6), 0);
        walls.breaks(1);
        is("two broken", walls.count(4), 2);
        walls.forgive(0);
        is("one broken", walls.count(4), 1);
        CHECK.sentence("27", "9: pairs that lean, 10: clashes");
        StringBuilder ten = new StringBuilder(P);
        for (char c = 'a'; c < 'k'; c++) {
            ten.append("oath ").append(c).append(" sure by p bears 1;");
        }
        StringBuilder all = new StringBuilder(ten);
        for (char c = 'a'; c < 'k'; c += 2) {
            all.append("lean ").append(c).append(' ').append((char) (c + 1)).append(';');
        }
        is("five pairs", CHECK.of(all.toString()).count(9), 5);
        StringBuilder clashes = new StringBuilder(ten);
        for (char c = 'a'; c < 'j'; c++) {
            for (char d = (char) (c + 1); d < 'k'; d++) {
                clashes.append("clash ").append(c).append(' ').append(d).append(';');
            }
        }
        is("they fit on the tape", clashes.length() <= 1000, true);
        is("45 clashes", CHECK.of(clashes.toString()).count(10), 45);
    }

    public static void main(String[] args) {
        nothing();
        looks();
        oathLooks();
        restsOn();
        stand();
        fall();
        breaks();
        forgives();
        raises();
        years();
        undoes();
        judged();
        marks();
        counts();
        CHECK.end();
    }
}
