/** How a city and a life are told, and their faults: a test for each sentence that names a boundary. */
public final class BoundaryCityTest {
    private static final Check CHECK = new Check();
    private static final int NONE = OathWalls.NONE;
    private static final String P = "person p faith 1 tempt 1;";
    private static final String ABC = P + "oath a plain by p bears 1;oath b plain by p bears 1;oath c plain by p bears 1;";
    private static final String[] TAKEN = {"person", "faith", "tempt", "oath", "by", "bears", "lean", "clash", "stone",
        "weighs", "rent", "on", "age", "mend", "break", "forgive", "raise", "year", "plain", "old", "sure", "widow",
        "not", "and", "or"};

    /** Many lines, in each of which # is another letter, from a on. */
    private static String lines(int many, String line) {
        StringBuilder text = new StringBuilder();
        for (int i = 0; i < many; i++) {
            text.append(line.replace("#", String.valueOf((char) ('a' + i))));
        }
        return text.toString();
    }

    private static void anyNumber() {
        CHECK.sentence("3", "CITY: any number of lines");
        OathWalls walls = new OathWalls();
        CHECK.is("none", walls.city(), 0);
        CHECK.is("blanks alone", Check.city(walls, " \n "), 0);
        CHECK.of("mend 0;");
        CHECK.of("age 1;stone s weighs 0 rent 0;mend 0;" + P + "stone t weighs 0 rent 0 on s;oath a old by p bears 1;"
                + "stone u weighs 0 rent 0 on a t;oath b old by p bears 1;clash b a;person q faith 1 tempt 1;lean b a;");
        String all = lines(6, "person # faith1tempt1;") + lines(10, "oath o# old by a bears1;") + lines(10, "stone s# weighs0rent0;");
        OathWalls full = CHECK.of(all + "age 1;mend 1;lean oa ob;clash oa ob;");
        CHECK.is("people, oaths, stones", full.count(0) * 10000 + full.count(1) * 100 + full.count(2), 61010);
        CHECK.bad(1, P + "^;");
        CHECK.bad(1, "^;");
        CHECK.bad(1, "^p faith 1 tempt 1;");
    }

    private static void people() {
        CHECK.sentence("3", "person: 6 at most");
        String six = lines(6, "person # faith 1 tempt 1;");
        OathWalls walls = CHECK.of(six);
        CHECK.is("six", walls.count(0), 6);
        CHECK.bad(5, six + "^person g faith 1 tempt 1;");
        CHECK.bad(5, six + "^person a faith 99 tempt 1;");
        CHECK.bad(5, six + "^person");
        CHECK.bad(1, six + "^persons g faith 1 tempt 1;");
        CHECK.sentence("3", "persons are numbered as told");
        OathWalls told = CHECK.of("person z faith 0 tempt 7;person a faith 10 tempt 8;person m faith 5 tempt 9;");
        for (int p = 0; p < 3; p++) {
            CHECK.is("faith", told.person(p, 0), new int[] {0, 10, 5}[p]);
            CHECK.is("tempt", told.person(p, 1), 7 + p);
        }
        CHECK.sentence("3", "faith 0 to 10");
        CHECK.is("0", CHECK.of("person p faith 0 tempt 1;").person(0, 0), 0);
        CHECK.is("10", CHECK.of("person p faith 10 tempt 1;").person(0, 0), 10);
        CHECK.bad(4, "person p faith ^11 tempt 1;");
        CHECK.bad(4, "person p faith ^9999 tempt 100;");
        CHECK.bad(1, "person p faith ^- 1 tempt 1;");
        CHECK.sentence("3", "tempt 0 to 99");
        CHECK.is("0", CHECK.of("person p faith 1 tempt 0;").person(0, 1), 0);
        CHECK.is("99", CHECK.of("person p faith 1 tempt 99;").person(0, 1), 99);
        CHECK.bad(4, "person p faith 1 tempt ^100;");
        CHECK.bad(4, "person p faith 1 tempt ^9999");
    }

    private static void oaths() {
        CHECK.sentence("3", "oath: 10 at most");
        String ten = P + lines(10, "oath # plain by p bears 1;");
        CHECK.is("ten", CHECK.of(ten).count(1), 10);
        CHECK.bad(5, ten + "^oath k plain by p bears 1;");
        CHECK.bad(5, ten + "^oath a odd by z bears 0;");
        CHECK.bad(5, ten + "^oath");
        CHECK.sentence("3", "oaths are numbered as told");
        OathWalls told = CHECK.of(P + "oath z plain by p bears 7;oath a plain by p bears 8;oath m plain by p bears 9;");
        for (int o = 0; o < 3; o++) {
            CHECK.is("bears", told.oath(o, 2), 7 + o);
        }
        CHECK.sentence("3", "KIND: plain, old, sure, widow");
        OathWalls kinds = CHECK.of(P + "oath a widow by p bears 7;oath b sure by p bears 8;oath c old by p bears 9;oath d plain by p bears 9;");
        for (int o = 0; o < 4; o++) {
            CHECK.is("kind", kinds.oath(o, 0), 3 - o);
        }
        CHECK.bad(1, P + "oath a ^by p bears 1;");
        CHECK.bad(1, P + "oath a ^kind by p bears 1;");
        CHECK.bad(1, P + "oath a ^raise by p bears 1;");
        CHECK.bad(1, P + "oath a ^year by p bears 1;");
        CHECK.bad(1, P + "oath a ^not by p bears 1;");
        CHECK.bad(1, P + "oath a ^0 by p bears 1;");
        CHECK.sentence("3", "by a PERSON told");
        CHECK.is("the sixth", CHECK.of(lines(6, "person # faith 1 tempt 1;") + "oath z plain by f bears 1;").oath(0, 1), 5);
        CHECK.bad(2, "oath a plain by ^p bears 1;" + P);
        CHECK.bad(2, P + "oath a plain by ^a bears 1;");
        CHECK.bad(2, P + "oath a plain by ^pp bears 1;");
        CHECK.sentence("3", "bears 1 to 99");
        CHECK.is("1", CHECK.of(P + "oath a plain by p bears 1;").oath(0, 2), 1);
        CHECK.is("99", CHECK.of(P + "oath a plain by p bears 99;").oath(0, 2), 99);
        CHECK.bad(4, P + "oath a plain by p bears ^0;");
        CHECK.bad(4, P + "oath a plain by p bears ^0000;");
        CHECK.bad(4, P + "oath a plain by p bears ^100;");
    }

    private static void pairs(String pair) {
        CHECK.sentence("3", pair + ": two OATHS told");
        CHECK.of(ABC + pair + " a b;");
        CHECK.of(ABC + pair + " c a;");
        CHECK.bad(2, ABC + pair + " ^p b;");
        CHECK.bad(2, ABC + pair + " ^d b;oath d plain by p bears 1;");
        CHECK.bad(2, ABC + pair + " a ^d;");
        CHECK.bad(2, ABC + "stone s weighs 0 rent 0;" + pair + " a ^s;");
        CHECK.bad(2, ABC + "stone s weighs 0 rent 0;" + pair + " ^s a;");
        CHECK.bad(1, ABC + pair + " a ^;");
        CHECK.bad(1, ABC + pair + "^; a b;");
        CHECK.bad(1, ABC + pair + " a b ^c;");
        CHECK.sentence("3", pair + ": not the same");
        CHECK.bad(3, ABC + pair + " a ^a;");
        CHECK.bad(3, ABC + pair + " c ^c;");
        CHECK.bad(2, ABC + pair + " ^d d;");
    }

    private static void leanAndClash() {
        CHECK.sentence("3", "each pair once for each (lean)");
        CHECK.bad(3, ABC + "lean a b;lean ^a b;");
        CHECK.bad(3, ABC + "lean a b;lean ^b a;");
        CHECK.sentence("3", "each pair once for each (clash)");
        CHECK.bad(3, ABC + "clash a b;clash a ^b;");
        CHECK.bad(3, ABC + "clash a b;clash b ^a;");
        CHECK.bad(3, ABC + "clash a b;clash b c;clash c ^b;");
        OathWalls both = CHECK.of(ABC + "clash b a;lean a b;clash b c;clash a c;");
        CHECK.is("for each", both.count(9) * 10 + both.count(10), 13);
        CHECK.sentence("3", "no OATH leans twice");
        CHECK.bad(3, ABC + "lean a b;lean ^b c;");
        CHECK.bad(3, ABC + "lean a b;lean ^a c;");
        CHECK.bad(3, ABC + "lean a b;lean c ^a;");
        CHECK.bad(3, ABC + "lean a b;lean c ^b;");
        CHECK.bad(3, ABC + "lean a b;lean ^a d;");
        CHECK.of(ABC + "oath d plain by p bears 1;lean a b;lean d c;");
    }

    private static void stones() {
        CHECK.sentence("3", "stone: 10 at most");
        String ten = lines(10, "stone # weighs 0 rent 1;");
        CHECK.is("ten", CHECK.of(ten).count(2), 10);
        CHECK.bad(5, ten + "^stone k weighs 0 rent 1;");
        CHECK.bad(5, ten + "^stone a weighs 100 rent 1;");
        CHECK.bad(5, ten + "^stone");
        CHECK.sentence("3", "stones are numbered as told");
        OathWalls told = CHECK.of("stone z weighs 0 rent 7;stone a weighs 0 rent 8;stone m weighs 0 rent 9;");
        for (int s = 0; s < 3; s++) {
            CHECK.is("rent", told.stone(s, 1), 7 + s);
        }
        CHECK.sentence("3", "weighs 0 to 99");
        CHECK.is("0", CHECK.of("stone s weighs 0 rent 1;").stone(0, 0), 0);
        CHECK.is("99", CHECK.of("stone s weighs 99 rent 1;").stone(0, 0), 99);
        CHECK.bad(4, "stone s weighs ^100 rent 1;");
        CHECK.sentence("3", "rent 0 to 99");
        CHECK.is("0", CHECK.of("stone s weighs 1 rent 0;").stone(0, 1), 0);
        CHECK.is("99", CHECK.of("stone s weighs 1 rent 99;").stone(0, 1), 99);
        CHECK.bad(4, "stone s weighs 1 rent ^100;");
    }

    private static void on() {
        CHECK.sentence("3", "ON is nothing or on NAME ..");
        OathWalls walls = CHECK.of(ABC + "stone s weighs 0 rent 1;stone t weighs 0 rent 1 on b;stone u weighs 0 rent 1 on c t a s;");
        int[] oaths = {0, 2, 7};
        int[] below = {0, 0, 3};
        for (int s = 0; s < 3; s++) {
            CHECK.is("oaths", walls.stone(s, 3), oaths[s]);
            CHECK.is("stones", walls.stone(s, 4), below[s]);
        }
        CHECK.bad(1, ABC + "stone s weighs 0 rent 1 on ^;");
        CHECK.bad(1, ABC + "stone s weighs 0 rent 1 on a ^on b;");
        CHECK.bad(1, ABC + "stone s weighs 0 rent 1 ^a;");
        CHECK.bad(1, ABC + "stone s weighs 0 rent 1 on a b^");
        CHECK.sentence("3", "OATHS, STONES told (behind on)");
        String most = P + lines(10, "oath # sure by p bears 1;") + lines(9, "stone s# weighs 0 rent 0;");
        String full = most + "stone t weighs 10 rent 1 on sa sb sc sd se sf sg sh si a b c d e f g h i j;";
        CHECK.is("its signs", full.length() <= 1000, true);
        OathWalls on = CHECK.of(full);
        CHECK.is("ten oaths", on.stone(9, 3), 1023);
        CHECK.is("nine stones", on.stone(9, 4), 511);
        CHECK.is("up", on.count(6), 10);
        CHECK.bad(2, ABC + "stone s weighs 0 rent 1 on a ^p;");
        CHECK.bad(2, ABC + "stone s weighs 0 rent 1 on ^s;");
        CHECK.bad(2, ABC + "stone s weighs 0 rent 1 on ^t;stone t weighs 0 rent 1;");
        CHECK.bad(2, ABC + "stone s weighs 0 rent 1 on ^d;oath d plain by p bears 1;");
        CHECK.sentence("3", "each once (behind on)");
        CHECK.bad(3, ABC + "stone s weighs 0 rent 1 on a ^a;");
        CHECK.bad(3, ABC + "stone s weighs 0 rent 1 on a b c ^b;");
        CHECK.bad(3, ABC + "stone s weighs 0 rent 1;stone t weighs 0 rent 1 on s a ^s;");
        CHECK.of(ABC + "stone s weighs 0 rent 1 on a;stone t weighs 0 rent 1 on a s;stone u weighs 0 rent 1 on a s;");
    }

    private static void once() {
        CHECK.sentence("3", "mend 0 to 10 (5)");
        int[] due = {0, 1, 3, 4, 6, 7, 9, 10, 12, 13, 15};
        for (int mend = 0; mend <= 10; mend++) {
            OathWalls walls = CHECK.of(P + "oath a plain by p bears 15;mend " + mend + ";");
            walls.breaks(0);
            walls.forgive(0);
            CHECK.is("mend " + mend, walls.oath(0, 3), due[mend]);
        }
        OathWalls untold = CHECK.of(P + "oath a plain by p bears 15;");
        untold.breaks(0);
        untold.forgive(0);
        CHECK.is("without mend", untold.oath(0, 3), 7);
        CHECK.bad(4, "mend ^11;");
        Check.city(untold, "mend 9;");
        Check.city(untold, P + "oath a plain by p bears 15;");
        untold.breaks(0);
        untold.forgive(0);
        CHECK.is("without mend, behind a city with one", untold.oath(0, 3), 7);
        CHECK.sentence("3", "age, mend: once each");
        CHECK.of("mend 0;age 0;");
        CHECK.of("age 1;mend 5;");
        CHECK.bad(3, "mend 5;^mend 5;");
        CHECK.bad(3, "mend 0;age 1;^mend 0;");
        CHECK.bad(3, "age 1;^age 1;");
        CHECK.bad(3, "age 0;mend 1;^age ;");
        CHECK.is("a second city", Check.city(untold, "mend 1;age 1;"), 0);
        CHECK.is("has its own", Check.city(untold, "mend 1;age 1;"), 0);
    }

    private static void names() {
        CHECK.sentence("3", "A NAME is another WORD than person, faith, .., or");
        for (String word : TAKEN) {
            CHECK.bad(1, "person ^" + word + " faith 1 tempt 1;");
            CHECK.bad(1, P + "oath ^" + word + " plain by p bears 1;");
            CHECK.bad(1, P + "oath a plain by ^" + word + " bears 1;");
            CHECK.bad(1, P + "stone ^" + word + " weighs 1 rent 1;");
            CHECK.bad(1, ABC + "stone s weighs 1 rent 1 on ^" + word + ";");
            CHECK.bad(1, ABC + "stone s weighs 1 rent 1 on a ^" + word + ";");
            CHECK.bad(1, ABC + "lean ^" + word + " a;");
            CHECK.bad(1, ABC + "lean a ^" + word + ";");
            CHECK.bad(1, ABC + "clash ^" + word + " a;");
            CHECK.bad(1, ABC + "clash a ^" + word + ";");
            CHECK.badLife(1, ABC, "break ^" + word + ";");
            CHECK.badLife(1, ABC, "forgive ^" + word + ";");
            CHECK.badLife(1, ABC, "raise ^" + word + ";");
            CHECK.of("person " + (word.length() < 8 ? word + "x" : "x") + " faith 1 tempt 1;");
        }
        for (String fact : new String[] {"base", "years", "kind", "alone"}) {
            CHECK.of("person " + fact + " faith 1 tempt 1;");
            CHECK.of(ABC + "oath " + fact + " plain by p bears 1;stone s weighs 0 rent 1 on " + fact + " a;lean a " + fact + ";");
            CHECK.of("stone " + fact + " weighs 0 rent 1;stone s weighs 0 rent 1 on " + fact + ";");
        }
        for (String other : new String[] {"city", "life", "bear", "weigh", "leans", "none", "persons", "o", "n", "an", "xor"}) {
            CHECK.of("person " + other + " faith 1 tempt 1;");
        }
        CHECK.sentence("3", "no two (PEOPLE, OATHS, STONES) are alike");
        String all = "person p faith 1 tempt 1;person q faith 1 tempt 1;oath a plain by p bears 1;oath b plain by p bears 1;"
                + "stone s weighs 0 rent 1;stone t weighs 0 rent 1;";
        for (String name : new String[] {"p", "q", "a", "b", "s", "t"}) {
            CHECK.bad(3, all + "person ^" + name + " faith 1 tempt 1;");
            CHECK.bad(3, all + "oath ^" + name + " plain by p bears 1;");
            CHECK.bad(3, all + "stone ^" + name + " weighs 0 rent 1;");
        }
        CHECK.of(all + "person aa faith 1 tempt 1;oath pp plain by p bears 1;stone ss weighs 0 rent 1;");
        OathWalls again = CHECK.of(all);
        CHECK.is("the names of the last city are free", Check.city(again, all), 0);
        CHECK.is("those of one with a fault, too", Check.city(again, "person x faith 1 tempt 1;."), 1 + 16 * 25);
        CHECK.is("so are x's", Check.city(again, "person x faith 1 tempt 1;"), 0);
    }

    private static void lifeLines() {
        String city = ABC + "stone s weighs 0 rent 1;";
        CHECK.sentence("4", "LIFE: any number of break NAME; forgive NAME; raise NAME; year;");
        OathWalls walls = CHECK.of(city);
        CHECK.is("none", walls.life(), 0);
        CHECK.is("each", Check.life(walls, " break a;forgive\na;raise s;year;year ;"), 0);
        CHECK.is("five", walls.count(7), 5);
        CHECK.badLife(1, city, "^;");
        CHECK.badLife(1, city, "^mend 1;");
        CHECK.badLife(1, city, "^widow a;");
        CHECK.badLife(1, city, "^plain a;");
        CHECK.badLife(1, city, "^years;");
        CHECK.badLife(1, city, "^7;");
        CHECK.badLife(1, city, "year ^a;");
        CHECK.badLife(1, city, "break a ^b;");
        CHECK.badLife(1, city, "year^");
        CHECK.sentence("4", "OATHS told; a STONE told");
        CHECK.badLife(2, city, "break ^d;");
        CHECK.badLife(2, city, "break ^s;");
        CHECK.badLife(2, city, "break ^p;");
        CHECK.badLife(2, city, "forgive ^s;");
        CHECK.badLife(2, city, "forgive ^base;");
        CHECK.badLife(2, city, "raise ^a;");
        CHECK.badLife(2, city, "raise ^p;");
        CHECK.badLife(2, "", "break ^a;");
        Check.city(walls, "stone a weighs 0 rent 1;");
        CHECK.is("of the city that is there", Check.life(walls, "break a;"), 2 + 16 * 6);
        CHECK.is("it has no other oaths", Check.life(walls, "break b;"), 2 + 16 * 6);
        CHECK.is("a stone", Check.life(walls, "raise a;"), 0);
        Check.city(walls, ABC + ".");
        CHECK.is("not of one with a fault", Check.life(walls, "break b;"), 2 + 16 * 6);
        CHECK.sentence("4", "40 lines at most");
        OathWalls full = CHECK.of(city);
        CHECK.is("39", Check.life(full, "break a;".repeat(39)), 0);
        CHECK.is("39", full.count(7), 39);
        CHECK.is("40", Check.life(full, "year;".repeat(20) + "raise s;".repeat(20)), 0);
        CHECK.is("40", full.count(7), 40);
        CHECK.badLife(5, city, "year;".repeat(40) + "^year;");
        CHECK.badLife(5, city, "year;".repeat(40) + "^raise z;");
        CHECK.badLife(5, city, "forgive b;".repeat(40) + "^break");
        CHECK.badLife(1, city, "year;".repeat(40) + "^a;");
    }

    private static void placesOfFaults() {
        CHECK.sentence("3", "FAULTS, kind + 16 * the place (from 0) of a token");
        CHECK.bad(1, "^mind 5;");
        CHECK.bad(1, " ^mind 5;");
        CHECK.bad(1, "mend 5;" + " ".repeat(992) + "^.");
        CHECK.sentence("3", "the end being one at the text's length");
        CHECK.bad(1, "mend 5^");
        CHECK.bad(1, "mend 5 \n ^");
        CHECK.bad(1, "mend^");
        CHECK.bad(1, P + "oath a plain by^");
        CHECK.bad(1, P + "stone s weighs 0 rent 0 ^");
        CHECK.bad(1, "age (1^");
        CHECK.bad(1, "age  ^");
        CHECK.bad(1, "mend 5" + " ".repeat(994) + "^");
        CHECK.badLife(1, ABC, "year;break \n^");
        CHECK.badLife(1, ABC, "break a^");
        CHECK.sentence("3", "of the first token from the left that is wrong");
        CHECK.bad(4, "mend ^11;mend .");
        CHECK.bad(1, "person p faith 1 ^tempts 100;person p faith 11 tempt 1;");
        CHECK.bad(2, P + "oath a plain by ^q bears 0;.");
        CHECK.bad(4, P + "oath a plain by p bears ^0");
        CHECK.bad(3, P + "oath ^p odd by q bears 0;");
        CHECK.bad(3, ABC + "lean a b;lean ^a z;");
        CHECK.bad(3, ABC + "clash a ^a z;");
        CHECK.bad(2, ABC + "clash ^z z;");
        CHECK.sentence("3", "wrong the least");
        CHECK.bad(1, lines(6, "person # faith 1 tempt 1;") + "^persons a faith 1 tempt 1;");
        CHECK.bad(1, "age (((((^+1)))));");
        CHECK.bad(1, "age (((((^)))))))");
        CHECK.bad(1, "age (((((^mend");
        CHECK.bad(1, "age (((((^.");
        CHECK.bad(1, "age (((((^");
        CHECK.bad(1, "age (((((^12345");
        CHECK.badLife(1, ABC, "year;".repeat(40) + "^stone;");
        CHECK.badLife(1, ABC, "year;".repeat(40) + "^.");
        CHECK.badLife(1, ABC, "year;".repeat(40) + "^abcdefghi");
        CHECK.bad(1, "mend ^99999;");
        CHECK.bad(1, "mend 5;^lend 5;");
    }

    /** What is not told of the next stands nowhere: each line is cut behind each of its words. */
    private static void eachPlace() {
        CHECK.sentence("3", "1 it can't stand there");
        String[] cities = {"person p faith 1 tempt 2 ;", "mend 5 ;", "age 1 ;", "stone s weighs 1 rent 2 ;"};
        String[] lines = {"oath d plain by p bears 1 ;", "lean a b ;", "clash a b ;", "stone s weighs 1 rent 2 on a b ;"};
        for (String line : cities) {
            eachPlace("", line);
        }
        for (String line : lines) {
            eachPlace(ABC, line);
        }
        CHECK.sentence("4", "1 it can't stand there");
        for (String line : new String[] {"break a ;", "forgive b ;", "raise s ;", "year ;"}) {
            String[] words = line.split(" ");
            String start = "";
            for (String word : words) {
                if (!start.isEmpty()) {
                    CHECK.badLife(1, ABC + "stone s weighs 0 rent 1;", start + "^");
                }
                CHECK.badLife(1, ABC + "stone s weighs 0 rent 1;", start + "^(");
                start += word + " ";
            }
        }
    }

    private static void eachPlace(String city, String line) {
        String start = city;
        for (String word : line.split(" ")) {
            if (!start.equals(city)) {
                CHECK.bad(1, start + "^");
            }
            CHECK.bad(1, start + "^.");
            CHECK.bad(1, start + "^)");
            CHECK.bad(1, start + "^abcdefghi");
            CHECK.bad(1, start + (start.endsWith("age ") ? "^;" : "^12345"));
            if (word.equals(";") && !line.contains(" on ") && !line.contains("age")) {
                CHECK.bad(1, start + "^a;");
                CHECK.bad(1, start + "^1;");
            }
            start += word + " ";
        }
    }

    private static void afterwards() {
        CHECK.sentence("3", "0, or its FAULT (all stays then)");
        OathWalls walls = CHECK.of(ABC + "stone s weighs 2 rent 1 on a b;");
        Check.life(walls, "year;year;");
        walls.years(3);
        walls.breaks(1);
        walls.hear(0, false);
        walls.mark(2, false);
        String cut = P + "oath a old by p bears 9;mend 0;age 7;stone t weighs 0 rent 0";
        CHECK.is("a fault at the end", Check.city(walls, cut), 1 + 16 * cut.length());
        int[] due = {1, 3, 1, 3, 1, 0, 0, 2, 1, 0, 0, 2, 0};
        for (int what = 0; what < due.length; what++) {
            CHECK.is("count " + what, walls.count(what), due[what]);
        }
        CHECK.is("as told", walls.oath(0, 2) + walls.oath(0, 3), 2);
        CHECK.is("the mark", walls.mark(2, true), true);
        CHECK.sentence("4", "likewise 0, or its FAULT (all stays then)");
        CHECK.is("a fault at the end", Check.life(walls, "break a;raise s;year"), 1 + 16 * 20);
        CHECK.is("the life stays", walls.count(7), 2);
        CHECK.is("no line of it is there", walls.judged(2), 1);
        CHECK.sentence("3", "year 0, all OATHS kept, all STONES up, then those that can't be FALL");
        CHECK.is("a city", Check.city(walls, ABC + "stone s weighs 2 rent 1 on a b;stone t weighs 1 rent 1 on a b;stone u weighs 0 rent 0;"
                + "stone v weighs 1 rent 0 on c;"), 0);
        int[] fresh = {1, 3, 4, 0, 0, 1, 2, 0, 0, 0, 0, 0, 0};
        for (int what = 0; what < fresh.length; what++) {
            CHECK.is("count " + what, walls.count(what), fresh[what]);
        }
        CHECK.is("none is forgiven", walls.oath(0, 5) + walls.oath(1, 5) + walls.oath(2, 5), 0);
        nothingIsLeft();
        CHECK.sentence("3", "no LIFE, nothing HEARD, nothing can be undone, no MARK is there");
        Check.life(walls, "year;");
        walls.hear(0, true);
        walls.years(1);
        for (int mark = 0; mark < 4; mark++) {
            walls.mark(mark, false);
        }
        CHECK.is("an empty city", walls.city(), 0);
        CHECK.is("no life", walls.count(7), 0);
        CHECK.is("nothing heard", walls.count(8), 0);
        CHECK.is("nor held", walls.broken(0, 0), 1);
        CHECK.is("nothing can be undone", walls.undo(), false);
        for (int mark = 0; mark < 4; mark++) {
            CHECK.is("no mark " + mark, walls.mark(mark, true), false);
        }
        CHECK.is("nobody", walls.count(0) + walls.count(1) + walls.count(2), 0);
        CHECK.is("no one", walls.person(0, 0), NONE);
    }

    /** All that can be told, done and asked, and cities with faults; then another city is as in a new object. */
    private static void nothingIsLeft() {
        CHECK.sentence("3", "Without a FAULT a CITY is the CITY from then on");
        String rich = lines(6, "person p# faith9tempt9;") + "oath a sure by pb bears9;oath b sure by pa bears9;oath c old by pa bears9;"
                + "oath d widow by pf bears9;lean a b;lean c d;clash a c;clash b d;clash a d;stone s weighs9rent9on a b c d;"
                + "stone t weighs9rent9on s a;stone u weighs9rent9on s t b;age base*9+alone;mend 9;";
        String plain = "person p faith 2 tempt 3;person q faith 4 tempt 5;oath a plain by p bears 7;oath b plain by q bears 8;oath c old by q bears 6;"
                + "stone s weighs 7 rent 1 on a;stone t weighs 8 rent 2 on b;stone u weighs 6 rent 3 on c;";
        String[] cities = {plain, plain + "age (1+((base)));", plain + "age not not not not base;mend 1;clash a c;lean b c;"};
        for (String city : cities) {
            OathWalls fresh = CHECK.of(city);
            OathWalls walls = new OathWalls();
            for (int i = 0; i < 4; i++) {
                CHECK.is("a rich one", Check.city(walls, rich), 0);
                used(walls);
                String[] faults = {rich + ".", "age ((((1+", "age not not not not 1<", plain + "mend 2;lean a b;clash b c;stone v weighs 1 rent 1 on s"};
                for (int f = 0; f < i; f++) {
                    CHECK.is("one with a fault", Check.city(walls, faults[f]) != 0, true);
                }
                CHECK.is("again", Check.city(walls, i % 2 == 0 ? city : rich), 0);
                used(walls);
                CHECK.is("the city", Check.city(walls, city), 0);
                same(walls, fresh);
            }
        }
    }

    private static void used(OathWalls walls) {
        Check.life(walls, "year;break c;");
        walls.breaks(2);
        walls.forgive(2);
        walls.years(1);
        walls.hear(0, true);
        walls.hear(0, false);
        walls.mark(0, false);
        walls.sure(0);
        walls.rests(0);
    }

    private static void same(OathWalls walls, OathWalls fresh) {
        for (int i = 0; i <= 12; i++) {
            CHECK.is("count " + i, walls.count(i), fresh.count(i));
            for (int what = 0; what < 8; what++) {
                CHECK.is("person " + i + " " + what, walls.person(i, what), fresh.person(i, what));
                CHECK.is("oath " + i + " " + what, walls.oath(i, what), fresh.oath(i, what));
                CHECK.is("stone " + i + " " + what, walls.stone(i, what), fresh.stone(i, what));
            }
        }
        for (int set = 0; set < 8; set++) {
            CHECK.is("stands " + set, walls.stands(set), fresh.stands(set));
        }
        CHECK.is("keep", walls.keep(), fresh.keep());
        CHECK.is("rests", walls.rests(OathWalls.NONE), fresh.rests(OathWalls.NONE));
        for (int what = 0; what < 3; what++) {
            CHECK.is("broken " + what, walls.broken(10, what), fresh.broken(10, what));
            CHECK.is("judged " + what, walls.judged(what), fresh.judged(what));
            CHECK.is("centuries " + what, walls.centuries(7, 9, what), fresh.centuries(7, 9, what));
        }
        for (int s = 0; s < 3; s++) {
            CHECK.is("weakest " + s, walls.weakest(s), fresh.weakest(s));
            CHECK.is("sure " + s, walls.sure(s), fresh.sure(s));
        }
    }

    private static void lifeIsTheLife() {
        CHECK.sentence("4", "A LIFE is the LIFE");
        OathWalls walls = CHECK.of(ABC + "stone s weighs 1 rent 1 on a;");
        walls.years(2);
        walls.hear(0, true);
        walls.mark(1, false);
        CHECK.is("a life", Check.life(walls, "break a;break b;"), 0);
        CHECK.is("its lines", walls.count(7), 2);
        CHECK.is("its end", walls.judged(2), 0);
        CHECK.is("another one", Check.life(walls, "break b;"), 0);
        CHECK.is("instead of it", walls.count(7), 1);
        CHECK.is("its end", walls.judged(2), 1);
        CHECK.is("all else stays", walls.count(3) * 100 + walls.count(8) * 10 + walls.count(11), 211);
        CHECK.is("marks, too", walls.mark(1, true), true);
    }

    public static void main(String[] args) {
        anyNumber();
        people();
        oaths();
        pairs("lean");
        pairs("clash");
        leanAndClash();
        stones();
        on();
        once();
        names();
        lifeLines();
        placesOfFaults();
        eachPlace();
        afterwards();
        lifeIsTheLife();
        CHECK.end();
    }
}
