/** The E of age and what an oath bears by it: a test for each sentence that names a boundary. */
public final class BoundaryLawTest {
    private static final Check CHECK = new Check();
    private static final String P = "person p faith 1 tempt 1;";

    /** What a widow that is not alone, told to bear 7, bears by a law in the second year. */
    private static void law(String law, int due) {
        OathWalls walls = CHECK.of(P + "oath a widow by p bears 7;oath b plain by p bears 9;age " + law + ";");
        walls.years(2);
        CHECK.is(law, walls.oath(0, 3), due < 0 ? 0 : due > 999 ? 999 : due);
    }

    private static void joints() {
        CHECK.sentence("3", "E: TEST { and TEST or or TEST }, from the left");
        law("1 or 1 and 0", 0);
        law("0 and 0 or 1", 1);
        law("0 and 1 or 1 and 0", 0);
        law("1 or 0 and 0 or 1", 1);
        law("1 and 1 and 1", 1);
        law("1 and 1 and 0", 0);
        law("0 or 0 or 0", 0);
        law("1 or (1 and 0)", 1);
        law("1<2 and 2<3 or 4=5", 1);
        CHECK.bad(1, "age 1 and ^;");
        CHECK.bad(1, "age 1 or ^and 1;");
        CHECK.bad(1, "age ^or 1;");
        CHECK.sentence("3", "TEST: SUM, or SUM < SUM, or SUM = SUM");
        law("1+1<3", 1);
        law("3<1+1", 0);
        law("2<2", 0);
        law("2+1=3", 1);
        law("3=2-1", 0);
        law("2*3=6", 1);
        law("(1<2)<2", 1);
        law("2<(1<2)", 0);
        law("(5=5)=1", 1);
        CHECK.bad(1, "age 1<2^<3;");
        CHECK.bad(1, "age 1<2^=3;");
        CHECK.bad(1, "age 1=2^<3;");
        CHECK.bad(1, "age 1=2^=3;");
        CHECK.bad(1, "age 1<2+3*4^<5;");
        CHECK.bad(1, "age 1<2 and 3=4^=5;");
        CHECK.bad(1, "age (1<2^<3);");
        CHECK.bad(1, "age 1<^<2;");
        CHECK.bad(1, "age 1<^=2;");
        CHECK.bad(1, "age 1<^;");
        CHECK.sentence("3", "SUM: PRODUCT { + or - PRODUCT }");
        law("10-3-2", 5);
        law("10-3+2", 9);
        law("10-(3+2)", 5);
        law("10-2*3", 4);
        law("2*3+4*5", 26);
        law("1+2+3+4+5+6", 21);
        CHECK.bad(1, "age ^-1;");
        CHECK.bad(1, "age ^+1;");
        CHECK.bad(1, "age 1-^-1;");
        CHECK.bad(1, "age 1+^;");
        CHECK.sentence("3", "PRODUCT: PART { * PART }");
        law("2*3*4", 24);
        law("2*(3+4)", 14);
        law("(3+4)*2", 14);
        law("2+3*4", 14);
        CHECK.bad(1, "age 2*^*3;");
        CHECK.bad(1, "age ^*3;");
        CHECK.bad(1, "age 2*^;");
    }

    private static void parts() {
        CHECK.sentence("3", "PART: a NUMBER, a fact, not PART, ( E )");
        law("0", 0);
        law("8", 8);
        law("0008", 8);
        law("base", 7);
        law("not 0*5", 5);
        law("not 0+5", 6);
        law("not 0<5", 1);
        law("not 7=1", 0);
        law("not 0 and 0", 0);
        law("not 1 or 1", 1);
        law("5*not 0", 5);
        law("not(0*5)", 1);
        law("(8)", 8);
        law("(1 or 0)*9", 9);
        law("(((8)))", 8);
        CHECK.bad(1, "age ^;");
        CHECK.bad(1, "age (^);");
        CHECK.bad(1, "age (1^;");
        CHECK.bad(1, "age 1^);");
        CHECK.bad(1, "age (1)^);");
        CHECK.bad(1, "age (1+^);");
        CHECK.bad(1, "age not ^;");
        CHECK.bad(1, "age not ^and;");
        CHECK.bad(1, "age not ^<1;");
        CHECK.bad(1, "age 1 ^1;");
        CHECK.bad(1, "age base ^years;");
        CHECK.bad(1, "age 1 ^not 1;");
        CHECK.bad(1, "age 1 ^(1);");
        CHECK.bad(1, "age (1) ^(1);");
        CHECK.bad(1, "age ^p;");
        CHECK.bad(1, P + "age ^p;");
        CHECK.bad(1, "age ^year;");
        CHECK.bad(1, "age ^plain;");
        CHECK.bad(1, "age ^age;");
        CHECK.bad(1, "age 1 ^mend 5;");
    }

    private static String closing(String opening) {
        return ")".repeat(opening.length() - opening.replace("(", "").length());
    }

    /** All ways to open so many of not and ( ). */
    private static String opening(int many, int which) {
        StringBuilder text = new StringBuilder();
        for (int i = 0; i < many; i++) {
            text.append((which >> i & 1) == 0 ? "(" : "not ");
        }
        return text.toString();
    }

    private static void depth() {
        CHECK.sentence("3", "no PART lies within 5 of not and ( )");
        String[] parts = {"7", "base", "years", "kind", "alone", "not 1", "(1)", "((1))", "not not 1"};
        for (int which = 0; which < 32; which++) {
            String four = opening(4, which);
            String five = opening(5, which);
            for (int i = 0; i < 5; i++) {
                CHECK.of("age " + four + parts[i] + closing(four) + ";");
            }
            for (String part : parts) {
                CHECK.bad(5, "age " + five + "^" + part + closing(five) + ";");
                CHECK.bad(5, "age 1+2*" + five + "^" + part);
            }
            String three = opening(3, which);
            CHECK.bad(5, "age " + three + "(1+not ^1)" + closing(three) + ";");
            CHECK.bad(5, "age " + three + "(1<(^1))" + closing(three) + ";");
            CHECK.of("age " + three + "(1 and 1)" + closing(three) + "+(((1)));");
            CHECK.bad(1, "age " + five + "^);");
        }
        CHECK.of("age ((((1))))+((((2))))*not not not not 1 and not(not(1))<not(not(1));");
        CHECK.of("age ((1)+(1)+(1)+((1)+(1)*((1))))-(1)-(1)-not 1-not 1-not 1-not 1-not 1;");
        CHECK.bad(5, "age ((((1))))+(((((^2)))));");
        CHECK.bad(5, "age ((1)+((1)+(((^1)))));");
        CHECK.bad(5, "age not not not not 1 and not not not not not ^1;");
        CHECK.bad(5, "age ((((1+not ^1))));");
        CHECK.bad(5, "age ((((not ^1");
        law("((((8))))", 8);
        law("not not not not 8", 1);
        law("not(not(8))", 1);
        law("(((not 8)))", 0);
        law("((((8))))-((((3))))", 5);
    }

    private static void facts() {
        CHECK.sentence("3", "Facts: base (what the OATH bears as told)");
        OathWalls base = CHECK.of(P + "oath a old by p bears 7;oath b widow by p bears 99;oath c plain by p bears 1;age base;");
        base.years(5);
        base.breaks(2);
        base.forgive(2);
        base.breaks(0);
        CHECK.is("of b", base.oath(1, 3), 99);
        base.forgive(0);
        CHECK.is("forgiven, of a", base.oath(0, 3), 3);
        CHECK.sentence("3", "years (that passed since the beginning)");
        OathWalls years = CHECK.of(P + "oath a plain by p bears 7;age years;");
        for (int year = 0; year < 5; year++) {
            CHECK.is("year " + year, years.oath(0, 3), year);
            years.years(1);
        }
        years.years(100);
        CHECK.is("105", years.oath(0, 3), 105);
        years.undo();
        CHECK.is("undone", years.oath(0, 3), 5);
        CHECK.is("told again", Check.city(years, P + "oath a plain by p bears 7;age years;"), 0);
        CHECK.is("since then", years.oath(0, 3), 0);
        CHECK.sentence("3", "kind (0 plain, 1 old, 2 sure, 3 widow)");
        OathWalls kinds = CHECK.of(P + "oath a plain by p bears 7;oath b old by p bears 7;oath c sure by p bears 7;oath d widow by p bears 7;age kind+10;");
        for (int o = 0; o < 4; o++) {
            CHECK.is("kind " + o, kinds.oath(o, 3), 10 + o);
        }
        CHECK.sentence("3", "alone (1 if no other OATH of that PERSON is kept)");
        OathWalls alone = CHECK.of(P + "person q faith 1 tempt 1;oath a plain by p bears 7;oath b old by q bears 7;oath c sure by p bears 7;"
                + "oath d widow by p bears 7;oath e plain by q bears 1;age 1+alone;");
        CHECK.is("another and a sure one", alone.oath(0, 3), 1);
        alone.breaks(3);
        CHECK.is("a sure one", alone.oath(0, 3), 1);
        CHECK.is("d and a are not", alone.oath(2, 3), 1);
        alone.breaks(0);
        CHECK.is("a sure one alone", alone.oath(2, 3), 2);
        CHECK.is("one of q", alone.oath(1, 3), 1);
        alone.breaks(4);
        CHECK.is("q's only one", alone.oath(1, 3), 2);
        alone.forgive(4);
        CHECK.is("forgiven is kept", alone.oath(1, 3), 1);
        alone.breaks(1);
        CHECK.is("e forgiven: half of 2", alone.oath(4, 3), 1);
        CHECK.is("a broken one bears nothing", alone.oath(1, 3), 0);
        OathWalls one = CHECK.of(P + "person q faith 1 tempt 1;oath a plain by p bears 7;oath b plain by q bears 7;age 3*alone;");
        CHECK.is("the others' count for nothing", one.oath(0, 3) + one.oath(1, 3), 6);
    }

    private static void truth() {
        CHECK.sentence("3", "Of not, and, or, < and = comes 1 or 0");
        law("not 0", 1);
        law("not 9", 0);
        law("5 and 7", 1);
        law("5 and 0", 0);
        law("0 or 6", 1);
        law("5 or 6", 1);
        law("0 or 0", 0);
        law("3<9", 1);
        law("9<3", 0);
        law("9=9", 1);
        law("9=3", 0);
        law("5-not 0", 4);
        law("5-not 9", 5);
        law("5-(5 and 7)", 4);
        law("5-(5 and 0)", 5);
        law("5-(0 and 5)", 5);
        law("5-(0 or 6)", 4);
        law("5-(0 or 0)", 5);
        law("5-(3<9)", 4);
        law("5-(9<3)", 5);
        law("5-(9=9)", 4);
        law("5-(9=3)", 5);
        CHECK.sentence("3", "what is not 0 is so");
        law("0-1 and 0-2", 1);
        law("0 or 0-1", 1);
        law("not(0-1)", 0);
        law("2 and 4", 1);
        law("not not 2", 1);
        law("(0-9999) or 0", 1);
        CHECK.sentence("3", "ints wrap");
        law("9999*9999*9999", 9999 * 9999 * 9999);
        law("9999*9999*22<0", 1);
        law("9999*9999*21<0", 0);
        law("9999*9999*21+9999*9999*21<0", 1);
        law("0-9999*9999*21-9999*9999*21<0", 0);
        law("4096*4096*256=0", 1);
        law("4096*4096*128<0", 1);
        law("4096*4096*128-1<0", 0);
        law("0-4096*4096*128<0", 1);
        law("4096*4096*256+12", 12);
        law("4096*4096*256*base+5", 5);
        law("0<4096*4096*128-1", 1);
        law("4096*4096*128<1", 1);
    }

    private static void withoutAge() {
        CHECK.sentence("3", "Without age: base, of an old one base + years, of a widow 2 * base if alone");
        OathWalls walls = CHECK.of(P + "person q faith 1 tempt 1;oath a plain by p bears 4;oath b old by p bears 4;oath c sure by p bears 4;"
                + "oath d widow by p bears 4;oath e widow by q bears 99;");
        int[] first = {4, 4, 4, 4, 198};
        int[] third = {4, 7, 4, 4, 198};
        for (int o = 0; o < 5; o++) {
            CHECK.is("year 0, oath " + o, walls.oath(o, 3), first[o]);
        }
        walls.years(3);
        for (int o = 0; o < 5; o++) {
            CHECK.is("year 3, oath " + o, walls.oath(o, 3), third[o]);
        }
        OathWalls alone = CHECK.of(P + "person q faith 1 tempt 1;person r faith 1 tempt 1;oath a plain by p bears 4;oath b old by q bears 4;"
                + "oath c sure by r bears 4;");
        alone.years(2);
        for (int o = 0; o < 3; o++) {
            CHECK.is("alone, oath " + o, alone.oath(o, 3), o == 1 ? 6 : 4);
        }
        OathWalls widow = CHECK.of(P + "oath a plain by p bears 4;oath d widow by p bears 9;");
        CHECK.is("not alone", widow.oath(1, 3), 9);
        widow.breaks(0);
        CHECK.is("alone", widow.oath(1, 3), 18);
        widow.forgive(0);
        CHECK.is("not alone", widow.oath(1, 3), 9);
        OathWalls told = CHECK.of(P + "person q faith 1 tempt 1;oath b old by p bears 4;oath d widow by q bears 9;age base;");
        told.years(2);
        CHECK.is("with age they are as others", told.oath(0, 3) * 10 + told.oath(1, 3), 49);
        Check.city(told, P + "oath b old by p bears 4;");
        told.years(2);
        CHECK.is("and a city without it has none", told.oath(0, 3), 6);
    }

    private static void strength() {
        CHECK.sentence("6", "STRENGTH of an OATH: 0 if it is broken");
        OathWalls walls = CHECK.of(P + "oath a plain by p bears 40;oath b plain by p bears 40;age 50;mend 10;lean a b;");
        CHECK.is("kept", walls.oath(0, 3), 55);
        walls.breaks(0);
        CHECK.is("broken", walls.oath(0, 3), 0);
        CHECK.sentence("6", "else the E of age (0 below it, 999 above)");
        law("0-1", 0);
        law("0-9999", 0);
        law("0", 0);
        law("1", 1);
        law("998", 998);
        law("999", 999);
        law("1000", 999);
        law("9999", 999);
        OathWalls old = CHECK.of(P + "oath a old by p bears 98;");
        for (int i = 0; i < 9; i++) {
            old.years(100);
        }
        CHECK.is("98 + 900", old.oath(0, 3), 998);
        old.years(1);
        CHECK.is("98 + 901", old.oath(0, 3), 999);
        old.years(1);
        CHECK.is("98 + 902", old.oath(0, 3), 999);
        CHECK.sentence("6", "if it was forgiven mend of ten of that, cut");
        forgiven("19", "", 9);
        forgiven("19", "mend 0;", 0);
        forgiven("19", "mend 1;", 1);
        forgiven("19", "mend 3;", 5);
        forgiven("19", "mend 9;", 17);
        forgiven("19", "mend 10;", 19);
        forgiven("1", "mend 9;", 0);
        forgiven("9999", "mend 5;", 499);
        forgiven("9999", "mend 9;", 899);
        forgiven("0-100", "mend 9;", 0);
        CHECK.sentence("6", "if it leans: 0 if the other one of the pair is broken, else 5 more");
        forgiven("19", "lean a b;", 14);
        forgiven("9999", "lean a b;mend 10;", 1004);
        forgiven("19", "lean b a;mend 0;", 5);
        forgiven("0-100", "lean b a;mend 10;", 5);
        OathWalls lean = CHECK.of(P + "oath a plain by p bears 10;oath b sure by p bears 20;oath c plain by p bears 30;oath d plain by p bears 40;"
                + "lean a c;lean d b;");
        int[] due = {15, 25, 35, 45};
        for (int o = 0; o < 4; o++) {
            CHECK.is("leaning " + o, lean.oath(o, 3), due[o]);
        }
        lean.breaks(2);
        CHECK.is("a", lean.oath(0, 3), 0);
        CHECK.is("a is kept yet", lean.oath(0, 4), 0);
        lean.breaks(3);
        CHECK.is("b", lean.oath(1, 3), 0);
        lean.forgive(2);
        CHECK.is("a", lean.oath(0, 3), 15);
        CHECK.is("c, forgiven: half of it and 5", lean.oath(2, 3), 20);
        lean.breaks(0);
        CHECK.is("both ways", lean.oath(2, 3), 0);
    }

    private static void forgiven(String law, String more, int due) {
        OathWalls walls = CHECK.of(P + "oath a plain by p bears 5;oath b plain by p bears 5;age " + law + ";" + more);
        walls.breaks(0);
        walls.forgive(0);
        CHECK.is(law + ";" + more, walls.oath(0, 3), due);
        walls.breaks(0);
        walls.forgive(0);
        CHECK.is("twice is as once", walls.oath(0, 3), due);
    }

    public static void main(String[] args) {
        joints();
        parts();
        depth();
        facts();
        truth();
        withoutAge();
        strength();
        CHECK.end();
    }
}
