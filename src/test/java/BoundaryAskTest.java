import java.util.NoSuchElementException;

/** What would be, if: a test for each sentence that names a boundary. */
public final class BoundaryAskTest {
    private static final Check CHECK = new Check();
    private static final int NONE = OathWalls.NONE;
    private static final int[] OTHERS = {-1, -2, 11, 31, 32, 33, 64, 1 << 16, Integer.MAX_VALUE, Integer.MIN_VALUE};
    private static final String P = "person p faith 3 tempt 1;";
    private static final String PQ = "person p faith 3 tempt 4;person q faith 6 tempt 9;";
    private static final String AB = PQ + "oath a plain by p bears 10;oath b plain by q bears 10;";
    private static final String ST = AB + "stone s weighs 10 rent 5 on a;stone t weighs 10 rent 7 on b;";

    private static void is(String what, long got, long due) {
        CHECK.is(what, got, due);
    }

    private static void is(String what, boolean got, boolean due) {
        CHECK.is(what, got, due);
    }

    private static String ten(String kind) {
        StringBuilder text = new StringBuilder(P);
        for (char c = 'a'; c < 'k'; c++) {
            text.append("oath ").append(c).append(' ').append(kind).append(" by p bears 1;");
        }
        return text.toString();
    }

    private static void stands() {
        CHECK.sentence("15", "IF, as bits of STONES; NONE: bits of others than OATHS");
        OathWalls walls = CHECK.of(ST + "stone u weighs 0 rent 0;");
        int[] due = {7, 0, 1, 0};
        for (int set = 0; set < 4; set++) {
            is("stands " + set, walls.stands(set), due[set]);
        }
        for (int set : new int[] {4, 5, 7, 8, 1023, 1024, -1, -4, 1 << 30, Integer.MIN_VALUE, Integer.MAX_VALUE}) {
            is("others " + set, walls.stands(set), NONE);
        }
        OathWalls most = CHECK.of(ten("plain") + "stone s weighs 1 rent 0 on j;");
        is("all ten", most.stands(1023), 0);
        is("the tenth", most.stands(512), 0);
        is("all but the tenth", most.stands(511), 1);
        is("an eleventh", most.stands(1024), NONE);
        is("an eleventh", most.stands(2047), NONE);
        is("of no oaths none", new OathWalls().stands(0), 0);
        CHECK.sentence("15", "some OATHS were broken, too (sure ones are not)");
        OathWalls sure = CHECK.of(AB + "oath c sure by p bears 10;stone s weighs 10 rent 0 on c;stone t weighs 10 rent 0 on b;");
        is("a sure one alone", sure.stands(4), 3);
        is("among others", sure.stands(7), 1);
        sure.breaks(1);
        is("besides what is broken", sure.stands(0), 1);
        is("what is broken may be named", sure.stands(2), 1);
        is("t is not raised", sure.stands(5), 1);
        is("and nothing was done", sure.count(4) * 10 + sure.count(11), 11);
        CHECK.sentence("15", "the STONES up behind the FALL");
        OathWalls down = CHECK.of(ST);
        down.breaks(0);
        down.raise(1);
        is("t alone is up", down.stands(0), 2);
        is("s is not by anything", down.stands(1), 2);
        is("t falls", down.stands(2), 0);
        OathWalls alone = CHECK.of(P + "oath a plain by p bears 9;oath b widow by p bears 5;stone s weighs 10 rent 1 on a b;");
        is("the widow's 10 if she is alone", alone.stands(1), 1);
        is("9", alone.stands(2), 0);
    }

    private static void weakest() {
        CHECK.sentence("16", "NONE: others, down, none does");
        OathWalls walls = CHECK.of(ST + "stone u weighs 0 rent 0;");
        for (int other : OTHERS) {
            is("others " + other, walls.weakest(other), NONE);
        }
        is("the third is the last", walls.weakest(3), NONE);
        walls.breaks(1);
        is("s", walls.weakest(0), 1);
        is("t is down", walls.weakest(1), NONE);
        is("u is down", walls.weakest(2), NONE);
        walls.raise(2);
        is("u is told behind s", walls.weakest(2), 1);
        is("none does", CHECK.of("stone s weighs 0 rent 0;").weakest(0), NONE);
        is("sure ones are not broken", CHECK.of(P + "oath a sure by p bears 5;stone s weighs 5 rent 0 on a;").weakest(0), NONE);
        CHECK.sentence("16", "the fewest OATHS (kept ones) by which it is not");
        String three = P + "oath a plain by p bears 5;oath b plain by p bears 5;oath c plain by p bears 15;";
        is("c rather than a and b", CHECK.of(three + "stone s weighs 16 rent 0 on a b c;").weakest(0), 4);
        OathWalls kept = CHECK.of(three + "stone s weighs 10 rent 0 on a b c;");
        is("c and one of them", kept.weakest(0), 5);
        kept.breaks(0);
        is("a is broken", kept.weakest(0), 4);
        is("all ten", CHECK.of(ten("plain") + "stone s weighs 1 rent 0 on a b c d e f g h i j;").weakest(0), 1023);
        is("the tenth", CHECK.of(ten("plain") + "stone s weighs 1 rent 0 on j;").weakest(0), 512);
        CHECK.sentence("16", "of equal ones the least set");
        is("a or b", CHECK.of(three + "stone s weighs 10 rent 0 on a b;").weakest(0), 1);
        String four = P + "oath a plain by p bears 5;oath b plain by p bears 5;oath c plain by p bears 5;oath d plain by p bears 5;";
        OathWalls pairs = CHECK.of(four + "stone t weighs 5 rent 0 on a d;stone u weighs 5 rent 0 on b c;stone s weighs 0 rent 0;");
        is("b and c, 6, rather than a and d, 9", pairs.weakest(2), 6);
        is("t only by a and d", pairs.weakest(0), 9);
        OathWalls few = CHECK.of(four + "stone t weighs 5 rent 0 on a b;stone u weighs 5 rent 0 on d;stone s weighs 0 rent 0;");
        is("d, 8, rather than a and b, 3", few.weakest(2), 8);
    }

    private static void sure() {
        CHECK.sentence("17", "NONE: others, down");
        OathWalls walls = CHECK.of(ST);
        for (int other : OTHERS) {
            is("others " + other, walls.sure(other), NONE);
        }
        is("the second is the last", walls.sure(2), NONE);
        walls.breaks(1);
        is("t is down", walls.sure(1), NONE);
        is("s is up", walls.sure(0), 300000);
        CHECK.sentence("17", "keeps all OATHS by faith of ten, in millionths");
        for (int faith = 0; faith <= 10; faith++) {
            is("faith " + faith, CHECK.of("person p faith " + faith + " tempt 1;oath a plain by p bears 1;stone s weighs 1 rent 0 on a;").sure(0),
                    100000 * faith);
        }
        CHECK.sentence("17", "each PERSON, for himself, all OATHS, or breaks all he keeps (no sure ones)");
        is("one word for two", CHECK.of(PQ + "oath a plain by p bears 1;oath b plain by p bears 1;stone s weighs 1 rent 0 on a b;").sure(0), 300000);
        is("both of one", CHECK.of(PQ + "oath a plain by p bears 1;oath b plain by p bears 1;stone s weighs 2 rent 0 on a b;").sure(0), 300000);
        is("both of two", CHECK.of(AB + "stone s weighs 20 rent 0 on a b;").sure(0), 180000);
        is("one of two", CHECK.of(AB + "stone s weighs 10 rent 0 on a b;").sure(0), 720000);
        is("a sure one", CHECK.of(PQ + "oath a sure by p bears 1;oath b plain by q bears 1;stone s weighs 1 rent 0 on a b;").sure(0), 1000000);
        is("sure and plain", CHECK.of(PQ + "oath a sure by p bears 1;oath b plain by q bears 1;stone s weighs 2 rent 0 on a b;").sure(0), 600000);
        is("on nothing", CHECK.of(PQ + "stone s weighs 0 rent 0;").sure(0), 1000000);
        is("behind one that falls", CHECK.of(AB + "stone s weighs 1 rent 0 on a;stone t weighs 0 rent 0;").sure(1), 300000);
        OathWalls broken = CHECK.of(AB + "oath c plain by p bears 10;stone s weighs 10 rent 0 on a b c;");
        broken.breaks(1);
        is("what is broken stays so", broken.sure(0), 300000);
        is("of no people", CHECK.of("stone s weighs 0 rent 0;").sure(0), 1000000);
        CHECK.sentence("17", "exactly");
        StringBuilder six = new StringBuilder();
        for (int i = 0; i < 6; i++) {
            char c = (char) ('a' + i);
            six.append("person ").append(c).append(" faith ").append(i + 1).append(" tempt 1;oath o").append(c).append(" plain by ").append(c)
                    .append(" bears 1;");
        }
        is("by all", CHECK.of(six + "stone s weighs 6 rent 0 on oa ob oc od oe of;").sure(0), 720);
        is("by any", CHECK.of(six + "stone s weighs 1 rent 0 on oa ob oc od oe of;").sure(0), 1000000 - 9 * 8 * 7 * 6 * 5 * 4);
        is("by the sixth", CHECK.of(six + "stone s weighs 1 rent 0 on of;").sure(0), 600000);
    }

    private static void surest() {
        CHECK.sentence("18", "a weight (0 to 99), what 0, 1; NONE: others");
        OathWalls walls = CHECK.of(P + "oath a plain by p bears 50;oath b plain by p bears 49;oath c plain by p bears 50;");
        is("0", walls.surest(0, 0), 1000000);
        is("0", walls.surest(0, 1), 1);
        is("50", walls.surest(50, 1), 1);
        is("51", walls.surest(51, 1), 3);
        is("99", walls.surest(99, 1), 3);
        is("99", walls.surest(99, 0), 300000);
        for (int what = 0; what < 2; what++) {
            is("-1", walls.surest(-1, what), NONE);
            is("100", walls.surest(100, what), NONE);
            is("the least", walls.surest(Integer.MIN_VALUE, what), NONE);
            is("the most", walls.surest(Integer.MAX_VALUE, what), NONE);
        }
        for (int what : new int[] {2, -1, 3, Integer.MIN_VALUE, Integer.MAX_VALUE}) {
            is("what " + what, walls.surest(1, what), NONE);
        }
        CHECK.sentence("18", "put on one or two OATHS");
        OathWalls two = CHECK.of(ten("plain"));
        is("on two", two.surest(2, 1), 3);
        is("not on three", two.surest(3, 1), NONE);
        is("not on three", two.surest(3, 0), NONE);
        is("of none", new OathWalls().surest(0, 1), NONE);
        is("of none", CHECK.of(P + "stone s weighs 0 rent 0;").surest(0, 0), NONE);
        OathWalls last = CHECK.of(P + "oath a plain by p bears 1;oath b plain by p bears 9;oath c plain by p bears 9;");
        is("the last two", last.surest(18, 1), 6);
        CHECK.sentence("18", "those by which it is up the SUREST");
        String kinds = "oath a plain by p bears 9;oath b plain by q bears 9;oath c plain by q bears 5;";
        is("by either", CHECK.of(PQ + kinds).surest(9, 1), 3);
        is("by either", CHECK.of(PQ + kinds).surest(9, 0), 720000);
        is("by two of q", CHECK.of(PQ + kinds).surest(10, 1), 6);
        is("by two of q", CHECK.of(PQ + kinds).surest(10, 0), 600000);
        is("p and q", CHECK.of(PQ + kinds).surest(15, 0), 180000);
        is("a sure one", CHECK.of(PQ + kinds + "oath d sure by p bears 9;").surest(9, 1), 8);
        CHECK.sentence("18", "told last");
        is("it falls ahead of s", CHECK.of("person p faith 3 tempt 1;person q faith 10 tempt 1;oath a plain by p bears 5;oath b plain by q bears 5;"
                + "stone s weighs 5 rent 0 on a;").surest(5, 0), 300000);
        OathWalls full = CHECK.of(ten("sure") + "stone z weighs 0 rent 0;" + stones());
        is("behind ten", full.surest(1, 1), 1);
        is("behind ten", full.surest(1, 0), 1000000);
        is("it is not there", full.count(2), 10);
        CHECK.sentence("18", "(it STANDS now, too); NONE: it would not STAND by any");
        OathWalls taken = CHECK.of(ST);
        is("nothing is free", taken.surest(1, 0), NONE);
        is("nothing is free", taken.surest(1, 1), NONE);
        is("none is needed", taken.surest(0, 1), 1);
        taken.breaks(1);
        is("nor free by a broken one", taken.surest(1, 1), NONE);
        taken.breaks(0);
        taken.forgive(1);
        is("half is", taken.surest(5, 1), 2);
        is("half is", taken.surest(6, 1), NONE);
        is("never, and yet it STANDS now", CHECK.of("person p faith 0 tempt 1;oath a plain by p bears 5;").surest(5, 0), 0);
        is("on it", CHECK.of("person p faith 0 tempt 1;oath a plain by p bears 5;").surest(5, 1), 1);
        OathWalls then = CHECK.of(P + "oath a plain by p bears 5;oath b sure by p bears 5;age base+9*alone;");
        is("not what STANDS then alone", then.surest(11, 0), NONE);
        is("5 now, 14 then", then.surest(5, 0), 1000000);
        is("5 now, 14 then", then.surest(5, 1), 2);
        OathWalls moved = CHECK.of("person p faith 10 tempt 0;oath a sure by p bears 9;oath b sure by p bears 9;oath c sure by p bears 9;"
                + "stone s weighs 9 rent 0 on a b;stone t weighs 9 rent 0 on b c;");
        is("s and t move over", moved.surest(9, 1), 1);
        is("for more than one there is no room", moved.surest(10, 1), NONE);
        OathWalls some = CHECK.of("person p faith 4 tempt 0;person q faith 10 tempt 0;oath a plain by p bears 4;oath b sure by q bears 9;"
                + "oath c sure by q bears 9;stone s weighs 5 rent 0 on a b;stone t weighs 7 rent 0 on b c;");
        is("6 more on c: s has 5 of b's 9, and t what is left", some.surest(6, 1), 4);
        is("and ever", some.surest(6, 0), 1000000);
        is("7 more only while a is kept", some.surest(7, 0), 400000);
        is("on b", some.surest(7, 1), 2);
        CHECK.sentence("18", "of equal ones the least set");
        is("a and b, 3, rather than c, 4", CHECK.of("person p faith 5 tempt 1;person q faith 5 tempt 1;oath a plain by p bears 5;"
                + "oath b plain by p bears 5;oath c plain by q bears 9;").surest(9, 1), 3);
        is("a rather than c", CHECK.of(P + "oath a plain by p bears 5;oath b plain by p bears 4;oath c plain by p bears 5;").surest(5, 1), 1);
        is("b and c, 6, rather than a and d, 9", CHECK.of(P + "oath a plain by p bears 4;oath b plain by p bears 5;oath c plain by p bears 5;"
                + "oath d plain by p bears 6;").surest(10, 1), 6);
        is("c, 4, rather than b and c, 6", CHECK.of(P + "oath a plain by p bears 4;oath b plain by p bears 4;oath c plain by p bears 9;").surest(9, 1), 4);
    }

    /** Nine stones of no weight. */
    private static String stones() {
        StringBuilder text = new StringBuilder();
        for (char c = 'a'; c < 'j'; c++) {
            text.append("stone s").append(c).append(" weighs 0 rent 0;");
        }
        return text.toString();
    }

    private static void keep() {
        CHECK.sentence("19", "of each clash at least one is broken");
        String four = P + "oath a plain by p bears 5;oath b plain by p bears 5;oath c plain by p bears 5;oath d plain by p bears 5;";
        is("no clash", CHECK.of(four).keep(), 0);
        is("one", CHECK.of(four + "clash c d;").keep(), 4);
        is("two apart", CHECK.of(four + "clash a b;clash c d;").keep(), 5);
        is("three round", CHECK.of(four + "clash a b;clash b c;clash c a;").keep(), 3);
        OathWalls walls = CHECK.of(four + "clash d c;");
        walls.breaks(3);
        is("one is broken", walls.keep(), 0);
        walls.forgive(3);
        is("it is kept again", walls.keep(), 4);
        CHECK.sentence("19", "the fewest OATHS to be broken more; of equal ones the least set");
        is("d for all, 8, rather than three, 7", CHECK.of(four + "clash a d;clash b d;clash c d;").keep(), 8);
        is("a rather than b", CHECK.of(four + "clash b a;").keep(), 1);
        is("b and c, 6, rather than a and d, 9", CHECK.of(four + "clash a b;clash a c;clash b d;clash c d;").keep(), 6);
        CHECK.sentence("19", "(no sure ones)");
        is("b for a", CHECK.of(four.replace("a plain", "a sure") + "clash a b;").keep(), 2);
        is("it can't be", CHECK.of(four.replace("plain", "sure") + "clash a b;").keep(), NONE);
        CHECK.sentence("19", "no STONE that is up FALLS");
        is("s needs a", CHECK.of(four + "clash a b;stone s weighs 1 rent 0 on a;").keep(), 2);
        is("s needs both", CHECK.of(four + "clash a b;stone s weighs 6 rent 0 on a b;").keep(), NONE);
        OathWalls down = CHECK.of(four + "clash a b;stone s weighs 5 rent 0 on a;stone t weighs 6 rent 0 on b;");
        is("t is down: it does not count", down.keep(), 2);
        is("more than the fewest for the clashes", CHECK.of(four + "clash a b;clash a c;stone s weighs 5 rent 0 on a;").keep(), 6);
        OathWalls lean = CHECK.of(four + "lean b c;clash a b;stone s weighs 5 rent 0 on a;stone t weighs 5 rent 0 on c;");
        is("t leans on b, s is on a", lean.keep(), NONE);
    }

    private static void repair() {
        String city = ST + "oath c plain by p bears 9;stone u weighs 9 rent 0 on c;mend 10;";
        CHECK.sentence("20", "so many apologies (1 to 3), what 0: weight, i: the i-th OATH (1 ..); NONE: others, fewer are broken");
        OathWalls walls = CHECK.of(city);
        for (int many = -1; many <= 4; many++) {
            is("none is broken", walls.repair(many, 0), NONE);
        }
        for (int broken = 1; broken <= 3; broken++) {
            walls.breaks(broken - 1);
            for (int many : new int[] {-1, 0, 1, 2, 3, 4, 5, Integer.MIN_VALUE, Integer.MAX_VALUE}) {
                boolean can = many >= 1 && many <= 3 && many <= broken;
                is(broken + " broken, weight by " + many, walls.repair(many, 0) != NONE, can);
                for (int what = 1; what <= 5; what++) {
                    is(broken + " broken, many " + many + " what " + what, walls.repair(many, what) != NONE, can && what <= many);
                }
                is("what -1", walls.repair(many, -1), NONE);
                is("what the least", walls.repair(many, Integer.MIN_VALUE), NONE);
                is("what the most", walls.repair(many, Integer.MAX_VALUE), NONE);
            }
        }
        is("all is as it was", walls.count(4) * 100 + walls.count(3) * 10 + walls.count(11), 303);
        OathWalls ten = CHECK.of(ten("plain"));
        for (int o = 0; o < 10; o++) {
            ten.breaks(o);
        }
        is("three of ten", ten.repair(3, 0), 0);
        for (int many : new int[] {0, 4, 5, 10, -1}) {
            is("of ten broken ones " + many, ten.repair(many, 0), NONE);
            is("the first of " + many, ten.repair(many, 1), NONE);
        }
        CHECK.sentence("20", "by which the STONES up at last weigh most (of equal ones the first row)");
        int[][] rows = {{10, 0}, {20, 0, 1}, {29, 0, 1, 2}};
        for (int many = 1; many <= 3; many++) {
            for (int what = 0; what <= many; what++) {
                is(many + " what " + what, walls.repair(many, what), rows[many - 1][what]);
            }
        }
        OathWalls most = CHECK.of(AB + "oath c plain by p bears 20;oath d plain by p bears 20;stone s weighs 9 rent 0 on a;"
                + "stone t weighs 20 rent 0 on d;stone u weighs 19 rent 0 on c;mend 10;");
        for (int o = 0; o < 4; o++) {
            most.breaks(o);
        }
        is("d alone", most.repair(1, 0) * 10 + most.repair(1, 1), 203);
        is("c and d", most.repair(2, 0), 39);
        is("c", most.repair(2, 1), 2);
        is("ahead of d", most.repair(2, 2), 3);
        is("three", most.repair(3, 0), 48);
        is("a, c, d", most.repair(3, 1) * 100 + most.repair(3, 2) * 10 + most.repair(3, 3), 23);
        OathWalls up = CHECK.of(city);
        up.breaks(2);
        is("those that are up weigh, too", up.repair(1, 0), 29);
        OathWalls bare = CHECK.of(AB);
        bare.breaks(1);
        is("without stones", bare.repair(1, 0), 0);
        is("the one that is broken", bare.repair(1, 1), 1);
        repairYears();
    }

    private static void repairYears() {
        CHECK.sentence("20", "then each STONE that is down is raised, as told, if it can be");
        OathWalls told = CHECK.of(AB + "stone s weighs 6 rent 0 on a;stone t weighs 10 rent 0 on a;stone u weighs 4 rent 0 on a;mend 10;");
        told.breaks(0);
        is("s, not t, u", told.repair(1, 0), 10);
        OathWalls later = CHECK.of(AB + "stone s weighs 12 rent 0 on a b;stone t weighs 9 rent 0 on a;mend 10;");
        later.breaks(1);
        later.breaks(0);
        is("by a t alone, by b none", later.repair(1, 0) * 10 + later.repair(1, 1), 90);
        is("t is in the way of s, but not if b comes first: 12", later.repair(2, 0), 12);
        is("b", later.repair(2, 1), 1);
        is("a", later.repair(2, 2), 0);
        CHECK.sentence("20", "one a year from now on: in each, ahead of the YEAR, an OATH is forgiven, then each STONE raised, then the YEAR");
        OathWalls soon = CHECK.of(ST + "mend 10;age base*(years<1);");
        soon.breaks(0);
        is("up in year 0, it falls in the YEAR", soon.repair(1, 0), 0);
        is("the first row", soon.repair(1, 1), 0);
        OathWalls late = CHECK.of(ST + "mend 10;age base*(0<years);");
        late.breaks(1);
        late.breaks(0);
        is("not in year 0", late.repair(1, 0), 0);
        is("both in year 1", late.repair(2, 0), 20);
        OathWalls third = CHECK.of(ST + "oath c plain by p bears 9;mend 10;age base*(6<years);");
        third.years(5);
        for (int o = 0; o < 3; o++) {
            third.breaks(o);
        }
        is("year 5", third.repair(1, 0), 0);
        is("year 6", third.repair(2, 0), 0);
        is("year 7", third.repair(3, 0), 20);
        OathWalls between = CHECK.of(ST + "mend 10;age base*(not(years=1));");
        between.breaks(1);
        between.breaks(0);
        is("what falls in the first YEAR can't be raised in year 1", between.repair(2, 0), 0);
        OathWalls forgiven = CHECK.of(PQ + "oath a plain by p bears 1;oath b plain by p bears 10;stone s weighs 9 rent 0 on b;"
                + "age base-5*(not alone);mend 10;");
        forgiven.breaks(0);
        forgiven.raise(0);
        is("s is up by b alone", forgiven.count(5), 1);
        is("it falls behind the apology", forgiven.repair(1, 0), 0);
    }

    private static void hear() {
        CHECK.sentence("21", "HEARD: true; false: others, 10 are HEARD");
        OathWalls walls = CHECK.of(ST);
        for (int other : OTHERS) {
            is("others " + other, walls.hear(other, true), false);
            is("others " + other, walls.hear(other, false), false);
        }
        is("the second is the last", walls.hear(2, false), false);
        is("none is heard", walls.count(8), 0);
        for (int i = 1; i <= 10; i++) {
            is("the " + i, walls.hear(i % 2, true), true);
            is("so many", walls.count(8), i);
        }
        is("the eleventh", walls.hear(0, true), false);
        is("the eleventh", walls.hear(1, false), false);
        is("10", walls.count(8), 10);
        is("it is not heard", walls.broken(0, 0), 1);
        CHECK.sentence("21", "that a STONE is up, or is not");
        OathWalls up = CHECK.of(ST);
        up.hear(0, true);
        is("not a", up.broken(10, 2), 2);
        OathWalls down = CHECK.of(ST);
        down.hear(0, false);
        is("a", down.broken(10, 1), 1);
        is("b, too", down.broken(10, 2), 3);
        down.hear(0, true);
        is("both can't be", down.broken(10, 0), NONE);
        OathWalls two = CHECK.of(ST);
        two.hear(1, true);
        two.hear(0, true);
        is("neither a nor b", two.broken(10, 0) * 10 + two.broken(10, 2), 10);
        OathWalls none = CHECK.of(AB + "stone s weighs 10 rent 5 on b;stone t weighs 10 rent 7 on a;");
        none.hear(1, false);
        none.hear(0, false);
        is("b, for t is told behind s", none.broken(10, 1), 2);
        none.hear(1, false);
        is("s is down all the same", none.broken(10, 1), 2);
        OathWalls both = CHECK.of(ST);
        both.hear(1, false);
        both.hear(0, true);
        is("t is not, s is", both.broken(10, 1) * 10 + both.broken(10, 0), 21);
        both.years(1);
        both.breaks(1);
        is("it is held when it is so by itself", both.broken(0, 0), 1);
    }

    private static void broken() {
        CHECK.sentence("22", "so many at most (0 to 10), what 0 to 3; NONE: others, no set");
        OathWalls walls = CHECK.of(ten("plain"));
        int[] sets = {1, 11, 56, 176, 386, 638, 848, 968, 1013, 1023, 1024};
        for (int most = 0; most <= 10; most++) {
            is("at most " + most, walls.broken(most, 0), sets[most]);
            is("in all", walls.broken(most, 1), 0);
            is("in some", walls.broken(most, 2), most == 0 ? 0 : 1023);
            is("no stone parts them", walls.broken(most, 3), NONE);
            for (int what : new int[] {-1, 4, 5, Integer.MIN_VALUE, Integer.MAX_VALUE}) {
                is("what " + what, walls.broken(most, what), NONE);
            }
        }
        for (int most : new int[] {-1, 11, 12, Integer.MIN_VALUE, Integer.MAX_VALUE}) {
            for (int what = 0; what < 4; what++) {
                is("at most " + most, walls.broken(most, what), NONE);
            }
        }
        OathWalls parted = CHECK.of(ST);
        is("s: 2 and 2", parted.broken(10, 3), 0);
        for (int what : new int[] {-1, 4, 5, Integer.MIN_VALUE, Integer.MAX_VALUE}) {
            is("of parted ones what " + what, parted.broken(10, what), NONE);
        }
        for (int most : new int[] {-1, 11, Integer.MIN_VALUE, Integer.MAX_VALUE}) {
            is("of parted ones at most " + most, parted.broken(most, 3), NONE);
        }
        OathWalls never = CHECK.of(ST + "stone u weighs 0 rent 0;");
        never.hear(2, true);
        never.hear(0, false);
        for (int what = 0; what < 4; what++) {
            is("no set, what " + what, never.broken(10, what), NONE);
        }
        CHECK.sentence("22", "sets of OATHS (kept ones, no sure ones)");
        OathWalls kept = CHECK.of(ST + "oath c sure by p bears 1;oath d plain by p bears 1;");
        is("of a, b, d", kept.broken(10, 0) * 100 + kept.broken(10, 2), 811);
        kept.breaks(0);
        is("of b, d", kept.broken(10, 0) * 100 + kept.broken(10, 2), 410);
        is("one at most", kept.broken(1, 0), 3);
        CHECK.sentence("22", "OATHS in all, in some");
        OathWalls all = CHECK.of(ST + "oath c plain by p bears 1;");
        all.hear(0, false);
        is("a, with or without b and c", all.broken(10, 0), 4);
        is("in all", all.broken(10, 1), 1);
        is("in some", all.broken(10, 2), 7);
        is("a alone", all.broken(1, 1) * 10 + all.broken(1, 2), 11);
        evenest();
    }

    private static void evenest() {
        CHECK.sentence("22", "the STONE that parts them most evenly (the lesser number is the greatest)");
        String four = P + "oath a plain by p bears 5;oath b plain by p bears 5;oath c plain by p bears 5;";
        is("t: 4 and 4; s: 7 and 1", CHECK.of(four + "stone s weighs 5 rent 0 on a b c;stone t weighs 5 rent 0 on a;").broken(10, 3), 1);
        is("s: 4 and 4; t: 2 and 6", CHECK.of(four + "stone s weighs 5 rent 0 on a;stone t weighs 5 rent 0 on b;").broken(10, 3), 0);
        is("s: 6 and 2; t: 1 and 7", CHECK.of(four + "stone s weighs 5 rent 0 on a b;stone t weighs 6 rent 0 on a b c;").broken(10, 3), 0);
        is("s: 8 and none; t: 2 and 6", CHECK.of(four + "stone s weighs 0 rent 0;stone t weighs 10 rent 0 on a b;").broken(10, 3), 1);
        CHECK.sentence("22", "of equal ones the first");
        is("s as t: 4 and 4", CHECK.of(four + "stone s weighs 5 rent 0 on b;stone t weighs 0 rent 0;").broken(10, 3), 0);
        is("s: 7 and 1; t: 1 and 7", CHECK.of(four + "stone s weighs 5 rent 0 on a b c;stone t weighs 10 rent 0 on a b;").broken(10, 3), 0);
        OathWalls first = CHECK.of(four + "stone u weighs 0 rent 0;stone s weighs 5 rent 0 on b;stone t weighs 0 rent 0;");
        is("u parts none, s", first.broken(10, 3), 1);
        CHECK.sentence("22", "(NONE: none parts them)");
        is("no stone", CHECK.of(four).broken(10, 3), NONE);
        is("one that is up by all", CHECK.of(four + "stone s weighs 0 rent 0;").broken(10, 3), NONE);
        is("one that is up by none", CHECK.of(four + "stone s weighs 99 rent 0;").broken(10, 3), NONE);
        is("by one set none is parted", first.broken(0, 3), NONE);
        first.hear(1, false);
        is("heard", first.broken(10, 3), NONE);
    }

    private static void tempted() {
        CHECK.sentence("24", "NoSuchElementException: others, no such PEOPLE");
        OathWalls walls = CHECK.of(ST);
        int[][] due = {{5, 7}, {4, 0}, {5, 9}, {4, 9}};
        for (int choices = 0; choices < 4; choices++) {
            for (int p = 0; p < 2; p++) {
                is("gains " + p + " " + choices, gains(walls, p, choices), due[choices][p]);
            }
            for (int other : OTHERS) {
                is("gains " + other, gains(walls, other, choices), -7);
            }
            is("the second is the last", gains(walls, 2, choices), -7);
        }
        for (int choices : new int[] {4, 5, 7, 8, 63, 64, -1, -4, Integer.MIN_VALUE, Integer.MAX_VALUE}) {
            is("choices " + choices, gains(walls, 0, choices), -7);
            is("choices " + choices, gains(walls, 1, choices), -7);
        }
        is("of none", gains(new OathWalls(), 0, 0), -7);
        OathWalls six = CHECK.of("person a faith 1 tempt 1;person b faith 1 tempt 2;person c faith 1 tempt 3;person d faith 1 tempt 4;"
                + "person e faith 1 tempt 5;person f faith 1 tempt 6;");
        is("the sixth", gains(six, 5, 63), 6);
        is("of six", gains(six, 5, 64), -7);
        is("the seventh", gains(six, 6, 0), -7);
        CHECK.sentence("24", "rents of STONES up then that rest on an OATH of his that is kept then");
        OathWalls rents = CHECK.of(AB + "oath c sure by p bears 10;stone s weighs 0 rent 1 on a;stone t weighs 1 rent 2 on a c;"
                + "stone u weighs 0 rent 4 on t b;stone v weighs 5 rent 16 on b;stone w weighs 0 rent 32;");
        int[] ofP = {7, 4 + 6, 7, 4 + 6};
        int[] ofQ = {4 + 16, 4 + 16, 9, 9};
        for (int choices = 0; choices < 4; choices++) {
            is("p " + choices, gains(rents, 0, choices), ofP[choices]);
            is("q " + choices, gains(rents, 1, choices), ofQ[choices]);
        }
        rents.breaks(1);
        rents.raise(4);
        is("p by three stones up", gains(rents, 0, 0), 7);
        is("q by none", gains(rents, 1, 0), 0);
        CHECK.sentence("24", "and tempt if he chooses to break (though there be nothing to break)");
        is("q broke it before", gains(rents, 1, 2), 9);
        is("p has no oath", gains(CHECK.of(PQ), 0, 1), 4);
        is("nor any stone", gains(CHECK.of(PQ), 0, 2), 0);
        is("a sure one", gains(CHECK.of(PQ + "oath a sure by p bears 1;stone s weighs 1 rent 5 on a;"), 0, 1), 9);
    }

    private static int gains(OathWalls walls, int person, int choices) {
        try {
            return walls.gains(person, choices);
        } catch (NoSuchElementException e) {
            return -7;
        }
    }

    private static void rests() {
        CHECK.sentence("23", "nobody would have more by the other one of his own");
        String one = "oath a plain by p bears 1;stone s weighs 1 rent 5 on a;";
        OathWalls less = CHECK.of("person p faith 1 tempt 4;" + one);
        is("5 more than 4", less.rests(NONE) * 10 + less.rests(0), 10);
        OathWalls equal = CHECK.of("person p faith 1 tempt 5;" + one);
        is("5 as 5", equal.rests(NONE) * 100 + equal.rests(0) * 10 + equal.rests(1), 201);
        OathWalls more = CHECK.of("person p faith 1 tempt 6;" + one);
        is("6 more than 5", more.rests(NONE) * 10 + more.rests(0), 11);
        OathWalls never = CHECK.of("person p faith 1 tempt 7;person q faith 1 tempt 2;oath a plain by p bears 5;oath b plain by q bears 10;"
                + "oath c sure by p bears 10;oath d sure by q bears 1;age base-8*alone;stone z weighs 10 rent 5 on b c d;"
                + "stone x weighs 1 rent 0 on b;stone y weighs 5 rent 9 on a;");
        is("all are up", never.count(5), 3);
        int[][] due = {{14, 5}, {12, 5}, {5, 7}, {7, 2}};
        for (int choices = 0; choices < 4; choices++) {
            is("p " + choices, gains(never, 0, choices), due[choices][0]);
            is("q " + choices, gains(never, 1, choices), due[choices][1]);
        }
        is("no rest", never.rests(NONE), 0);
        is("no first", never.rests(0), NONE);
        CHECK.sentence("23", "what NONE: how many; i: the i-th (the least first); NONE: others");
        StringBuilder six = new StringBuilder();
        for (char c = 'a'; c < 'g'; c++) {
            six.append("person ").append(c).append(" faith 1 tempt 0;");
        }
        OathWalls all = CHECK.of(six.toString());
        is("all 64", all.rests(NONE), 64);
        for (int i = 0; i < 64; i++) {
            is("the " + i, all.rests(i), i);
        }
        for (int other : new int[] {64, 65, -2, -3, Integer.MIN_VALUE, Integer.MAX_VALUE}) {
            is("others " + other, all.rests(other), NONE);
            is("others " + other, equal.rests(other), NONE);
        }
        is("the third of two", equal.rests(2), NONE);
        OathWalls two = CHECK.of("person p faith 1 tempt 5;person q faith 1 tempt 5;oath a plain by p bears 5;oath b plain by q bears 5;"
                + "stone s weighs 10 rent 9 on a b;");
        is("both or none", two.rests(NONE), 2);
        is("none", two.rests(0), 0);
        is("both", two.rests(1), 3);
        OathWalls nobody = CHECK.of("stone s weighs 0 rent 0;");
        is("of nobody one", nobody.rests(NONE) * 10 + nobody.rests(0), 10);
        is("and no second", nobody.rests(1), NONE);
    }

    private static void centuries() {
        CHECK.sentence("25", "by a SEED (0 to 9999), of so many years (1 to 100), what 0 to 2; NONE: others");
        OathWalls walls = CHECK.of(ST);
        for (int what = 0; what < 3; what++) {
            is("the first seed", walls.centuries(0, 1, what) >= 0, true);
            is("the last seed", walls.centuries(9999, 1, what) >= 0, true);
            is("a hundred years", walls.centuries(0, 100, what) >= 0, true);
            for (int other : new int[] {-1, 10000, Integer.MIN_VALUE, Integer.MAX_VALUE}) {
                is("seed " + other, walls.centuries(other, 1, what), NONE);
            }
            for (int other : new int[] {0, -1, 101, Integer.MIN_VALUE, Integer.MAX_VALUE}) {
                is("years " + other, walls.centuries(1, other, what), NONE);
            }
        }
        for (int what : new int[] {-1, 3, Integer.MIN_VALUE, Integer.MAX_VALUE}) {
            is("what " + what, walls.centuries(1, 1, what), NONE);
        }
        is("all is as ahead", walls.count(3) + walls.count(4) + walls.count(11), 0);
        is("of nobody", CHECK.of("stone s weighs 0 rent 0;").centuries(9999, 100, 2), 1);
        CHECK.sentence("25", "a DRAW below 10: from his faith on he breaks the first OATH that he keeps (no sure one), if any");
        for (int faith = 0; faith <= 10; faith++) {
            OathWalls one = CHECK.of("person p faith " + faith + " tempt 1;oath a sure by p bears 1;oath b plain by p bears 2;oath c plain by p bears 3;"
                    + "stone s weighs 1 rent 0 on a;stone t weighs 3 rent 0 on c;stone u weighs 2 rent 0 on b;mend 10;");
            OathWalls none = CHECK.of("person p faith " + faith + " tempt 1;oath a sure by p bears 1;oath b plain by p bears 1;"
                    + "stone s weighs 1 rent 0 on b;mend 10;");
            none.breaks(1);
            for (int seed = 0; seed < 60; seed++) {
                int draw = draw(seed, 1);
                boolean breaks = draw >= faith;
                is("broken", one.centuries(seed, 1, 0), breaks ? 1 : 0);
                is("b, the first: u falls", one.centuries(seed, 1, 1), breaks ? 1 : 0);
                is("u", one.centuries(seed, 1, 2), breaks ? 3 : 7);
                is("none to break", none.centuries(seed, 1, 0), 0);
                is("a DRAW below his faith: if it is 0, his first broken one is forgiven", none.centuries(seed, 1, 2),
                        draw < faith && draw == 0 ? 1 : 0);
            }
        }
        draws();
        forgivenInCenturies();
        raisedInCenturies();
    }

    /** The so many-th DRAW below 10 by a SEED. */
    private static int draw(int seed, int many) {
        long g = seed;
        for (int i = 0; i < many; i++) {
            g = (g * 1103515245 + 12345) % 2147483648L;
        }
        return (int) (g / 65536 % 10);
    }

    private static void draws() {
        CHECK.sentence("25", "each year each PERSON, by number, has a DRAW: g becomes (g * 1103515245 + 12345) modulo 2147483648");
        int[] faith = {5, 9, 0, 8};
        int[] oaths = {1, 2, 3, 4};
        StringBuilder city = new StringBuilder("mend 3;");
        for (int p = 0; p < 4; p++) {
            city.append("person p").append((char) ('a' + p)).append(" faith ").append(faith[p]).append(" tempt 1;");
        }
        for (int o = 0; o < 10; o++) {
            city.append("oath o").append((char) ('a' + o)).append(" plain by p").append("abbcccdddd".charAt(o)).append(" bears 1;");
        }
        OathWalls walls = CHECK.of(city.toString());
        for (int seed = 0; seed < 10000; seed += seed < 9990 ? 111 : 9) {
            for (int years : new int[] {1, 2, 3, 10, 100}) {
                long g = seed;
                int broken = 0;
                int[] his = new int[4];
                for (int i = 0; i < 4 * years; i++) {
                    g = (g * 1103515245 + 12345) % 2147483648L;
                    int p = i % 4;
                    int drawn = (int) (g / 65536 % 10);
                    if (drawn >= faith[p]) {
                        broken += his[p] < oaths[p] ? 1 : 0;
                        his[p] = Math.min(his[p] + 1, oaths[p]);
                    } else if (drawn == 0) {
                        his[p] = Math.max(his[p] - 1, 0);
                    }
                }
                is("broken by " + seed + " in " + years, walls.centuries(seed, years, 0), broken);
            }
        }
    }

    /** A seed whose first draws these are. */
    private static int seedOf(int... draws) {
        for (int seed = 0; seed < 10000; seed++) {
            boolean fits = true;
            for (int i = 0; i < draws.length; i++) {
                fits &= draw(seed, i + 1) == draws[i];
            }
            if (fits) {
                return seed;
            }
        }
        throw new IllegalStateException("no seed");
    }

    private static void forgivenInCenturies() {
        CHECK.sentence("25", "(a DRAW below his faith: if it is 0, his first broken one is forgiven, if any)");
        OathWalls walls = CHECK.of("person p faith 5 tempt 1;person q faith 5 tempt 1;oath a plain by q bears 1;oath b plain by p bears 1;"
                + "oath c plain by p bears 1;stone s weighs 1 rent 0 on a;stone t weighs 1 rent 0 on b;stone u weighs 1 rent 0 on c;mend 10;");
        for (int o = 0; o < 3; o++) {
            walls.breaks(o);
        }
        is("p's first", walls.centuries(seedOf(0, 1), 1, 2), 2);
        is("q's", walls.centuries(seedOf(1, 0), 1, 2), 1);
        is("each one", walls.centuries(seedOf(0, 0), 1, 2), 3);
        is("p's both in two years", walls.centuries(seedOf(0, 3, 0, 4), 2, 2), 6);
        is("1 to 4 is nothing", walls.centuries(seedOf(1, 4), 1, 2), 0);
        is("all are broken", walls.centuries(seedOf(5, 9), 1, 0), 0);
        is("broken again", walls.centuries(seedOf(0, 1, 5, 2), 2, 0), 1);
        is("none to forgive", CHECK.of("person p faith 5 tempt 1;oath a plain by p bears 1;stone s weighs 1 rent 0 on a;mend 0;")
                .centuries(seedOf(0), 1, 2), 1);
        OathWalls zero = CHECK.of("person p faith 0 tempt 1;oath a plain by p bears 1;oath b plain by p bears 1;stone s weighs 1 rent 0 on a;mend 10;");
        zero.breaks(0);
        is("0 is not below faith 0: he breaks", zero.centuries(seedOf(0), 1, 0), 1);
        is("and forgives none", zero.centuries(seedOf(0), 1, 2), 0);
        OathWalls ten = CHECK.of("person p faith 10 tempt 1;oath a plain by p bears 1;stone s weighs 1 rent 0 on a;mend 10;");
        is("9 is below faith 10", ten.centuries(seedOf(9), 1, 0), 0);
        ten.breaks(0);
        is("0 forgives", ten.centuries(seedOf(0), 1, 2), 1);
    }

    private static void raisedInCenturies() {
        CHECK.sentence("25", "each with its FALL; then the YEAR; then each STONE that is down is raised, as told, if it can be; how many STONES fell in all");
        OathWalls walls = CHECK.of("person p faith 9 tempt 1;person q faith 9 tempt 1;oath a plain by p bears 5;oath b sure by q bears 5;"
                + "stone s weighs 5 rent 0 on a;stone t weighs 3 rent 0 on b;stone u weighs 2 rent 0 on b;");
        int seed = seedOf(9, 1);
        is("a breaks: three fall", walls.centuries(seed, 1, 1), 3);
        is("t and u are raised", walls.centuries(seed, 1, 2), 6);
        is("one was broken", walls.centuries(seed, 1, 0), 1);
        OathWalls told = CHECK.of("person p faith 10 tempt 1;oath a plain by p bears 5;stone s weighs 6 rent 0 on a;stone t weighs 3 rent 0 on a;"
                + "stone u weighs 5 rent 0 on a;stone v weighs 2 rent 0 on a;");
        is("none is up", told.count(5), 0);
        is("as told: t, not u, v", told.centuries(seedOf(1), 1, 2), 10);
        is("what is raised does not count as fallen", told.centuries(seedOf(1), 1, 1), 0);
        OathWalls year = CHECK.of("person p faith 10 tempt 1;oath a plain by p bears 5;stone s weighs 5 rent 0 on a;age base*(not(years=3));");
        year.years(1);
        is("from now on: year 2", year.centuries(7, 1, 1), 0);
        is("it falls in year 3", year.centuries(7, 2, 1), 1);
        is("it can't be raised in year 3", year.centuries(7, 2, 2), 0);
        is("it is raised behind year 4", year.centuries(7, 3, 2), 1);
        is("and counts once", year.centuries(7, 100, 1), 1);
        OathWalls often = CHECK.of("person p faith 10 tempt 1;oath a plain by p bears 5;stone s weighs 5 rent 0 on a;stone t weighs 0 rent 0;"
                + "age base*(not(years=2 or years=4 or years=100));");
        is("twice each, and once at last, and t is raised", often.centuries(7, 100, 1), 6);
        is("t", often.centuries(7, 100, 2), 2);
        OathWalls order = CHECK.of("person p faith 5 tempt 1;oath a plain by p bears 5;oath b plain by p bears 5;stone s weighs 5 rent 0 on b;"
                + "stone t weighs 5 rent 0 on a;age base-4*(not alone);mend 10;");
        order.breaks(0);
        order.raise(0);
        is("b alone bears s", order.count(5), 1);
        is("it falls behind a forgiving, too", order.centuries(seedOf(0), 1, 1), 1);
        is("none is up then", order.centuries(seedOf(0), 1, 2), 0);
    }

    /** What was asked before, of another moment or another city, is no answer now. */
    private static void askedAgain() {
        CHECK.sentence("14 to 24", "IF, SURE and the others are of what is now");
        OathWalls walls = CHECK.of(AB + "stone s weighs 10 rent 5 on a;stone t weighs 10 rent 7 on b;mend 0;");
        is("up", walls.stands(0) * 100 + walls.weakest(1) * 10 + walls.keep(), 310);
        is("surely", walls.sure(1), 180000);
        walls.breaks(1);
        is("broken", walls.stands(0) * 10 + walls.stands(1), 10);
        walls.forgive(1);
        is("forgiven", walls.stands(0), 1);
        is("s", walls.weakest(0), 1);
        walls.undo();
        walls.undo();
        is("undone", walls.stands(0) * 10 + walls.stands(2), 31);
        OathWalls raised = CHECK.of(AB + "stone s weighs 0 rent 5 on a;stone t weighs 11 rent 7 on b;stone u weighs 0 rent 0;");
        is("s alone is up", raised.stands(0), 1);
        raised.raise(2);
        is("u, too", raised.stands(0), 5);
        is("none does", raised.weakest(2), NONE);
        OathWalls lighter = CHECK.of(AB + "stone s weighs 5 rent 5 on a;mend 5;age base*(years<3);");
        lighter.breaks(0);
        lighter.raise(0);
        is("a is broken", lighter.surest(1, 1), 2);
        lighter.forgive(0);
        is("5 on a, forgiven, or on b", lighter.surest(5, 1), 3);
        lighter.mark(0, false);
        lighter.undo();
        lighter.undo();
        is("10 on a", lighter.surest(5, 1), 1);
        is("but not 6", lighter.surest(6, 1), 2);
        lighter.mark(0, true);
        is("s is down", lighter.surest(6, 1), 2);
        lighter.years(3);
        is("nothing bears any more", lighter.surest(1, 1), NONE);
        OathWalls city = CHECK.of(ST);
        is("a", city.weakest(0), 1);
        is("told anew", Check.city(city, AB + "stone s weighs 10 rent 5 on b;stone t weighs 10 rent 7 on a;"), 0);
        is("b", city.weakest(0), 2);
        is("by q", city.sure(0), 600000);
        forgivenAlone();
        otherStones();
    }

    /** Two moments that differ in what is forgiven, and in nothing else. */
    private static void forgivenAlone() {
        OathWalls walls = CHECK.of(AB + "oath c plain by q bears 10;stone s weighs 10 rent 5 on a c;mend 5;");
        is("by c", walls.stands(1), 1);
        is("by a", walls.stands(4), 1);
        walls.mark(0, false);
        walls.breaks(2);
        walls.forgive(2);
        is("5 by c", walls.stands(1), 0);
        is("by a", walls.stands(4), 1);
        walls.mark(0, true);
        is("10 by c", walls.stands(1), 1);
    }

    /** What a stone rests on now is not what it rested on in a life. */
    private static void otherStones() {
        OathWalls walls = CHECK.of(AB + "stone s weighs 10 rent 1 on a;stone t weighs 5 rent 7 on s b;mend 0;");
        Check.life(walls, "year;");
        walls.breaks(0);
        walls.forgive(0);
        is("t on b alone", walls.raise(1), true);
        for (int i = 0; i < 2; i++) {
            is("p has nothing of t", gains(walls, 0, 0), 0);
            is("q has", gains(walls, 1, 0), 7);
            is("in a life s and t are up", walls.judged(2), 3);
            is("p has nothing of t", gains(walls, 0, 0), 0);
            is("at rest both break", walls.rests(0), 3);
        }
    }

    public static void main(String[] args) {
        askedAgain();
        stands();
        weakest();
        sure();
        surest();
        keep();
        repair();
        hear();
        broken();
        tempted();
        rests();
        centuries();
        CHECK.end();
    }
}
