/** Faults of texts: a sign ^ stands ahead of the token that is wrong (and is not fed). */
public final class FaultTest {
    private static final Check CHECK = new Check();
    private static final String P = "person p faith 1 tempt 1;";
    private static final String AB = P + "oath a plain by p bears 1;oath b plain by p bears 1;oath c old by p bears 1;";

    private static void city(int kind, String marked) {
        OathWalls walls = new OathWalls();
        CHECK.is(marked, Check.city(walls, marked.replace("^", "")), kind + 16 * marked.indexOf('^'));
        CHECK.is(marked + " takes the tape", walls.count(12), 0);
        CHECK.is(marked + " is no city", walls.count(0) + walls.count(1) + walls.count(2), 0);
    }

    private static void good(String text) {
        CHECK.is(text, Check.city(new OathWalls(), text), 0);
    }

    private static void life(int kind, String marked) {
        OathWalls walls = new OathWalls();
        Check.city(walls, AB + "stone s weighs 0 rent 0;");
        CHECK.is("year", Check.life(walls, "year;"), 0);
        CHECK.is(marked, Check.life(walls, marked.replace("^", "")), kind + 16 * marked.indexOf('^'));
        CHECK.is(marked + " leaves the life", walls.count(7), 1);
        CHECK.is(marked + " takes the tape", walls.count(12), 0);
    }

    private static void tokens() {
        good("");
        good(" \n ");
        good("person p faith1tempt1;");
        good("person\np\nfaith 0010 tempt 0;");
        good("mend5;person abcdefgh faith 1 tempt 1;person abcdefg faith 1 tempt 1;");
        city(1, "^.");
        city(1, "^personp faith 1 tempt 1;");
        city(1, "person ^abcdefghi faith 1 tempt 1;");
        city(1, "person ^P faith 1 tempt 1;");
        city(1, "person p faith ^00001 tempt 1;");
        city(1, "person p faith 1 1".replace(" 1 1", " 1 ^1"));
        city(1, "person p faith 1 tempt 1 ^,");
        city(1, P + "^>");
        city(1, P + "   ^;");
        city(1, "person p faith 1 tempt 1^");
        city(1, "person p faith 1 tempt 1  \n ^");
        city(1, "^7");
        city(1, "^a");
        city(1, "^break a;");
    }

    private static void people() {
        city(1, "person ^faith faith 1 tempt 1;");
        city(1, "person ^plain faith 1 tempt 1;");
        city(1, "person ^or faith 1 tempt 1;");
        city(1, "person ^7 faith 1 tempt 1;");
        city(1, "person p ^tempt 1;");
        city(1, "person p faith ^x;");
        city(1, "person p faith 1 ^faith 1;");
        city(4, "person p faith ^11 tempt 1;");
        city(4, "person p faith 1 tempt ^100;");
        city(4, "person p faith ^9999 tempt 1;");
        city(3, P + "person ^p faith 1 tempt 1;");
        good("person base faith 10 tempt 99;person years faith 0 tempt 0;person kind faith 0 tempt 0;person alone faith 0 tempt 0;");
        StringBuilder six = new StringBuilder();
        for (char c = 'a'; c < 'g'; c++) {
            six.append("person ").append(c).append(" faith 1 tempt 1;");
        }
        good(six.toString());
        city(5, six + "^person g faith 1 tempt 1;");
        city(5, six + "^person a faith 11 tempt 1;");
    }

    private static void oaths() {
        city(1, P + "oath a ^odd by p bears 1;");
        city(1, P + "oath a ^7 by p bears 1;");
        city(1, P + "oath a ^on by p bears 1;");
        city(1, P + "oath a plain ^p bears 1;");
        city(1, P + "oath a plain by ^by bears 1;");
        city(2, P + "oath a plain by ^q bears 1;");
        city(2, P + "oath a plain by ^a bears 1;");
        city(2, AB + "oath d plain by ^a bears 1;");
        city(3, P + "oath ^p plain by p bears 1;");
        city(3, AB + "oath ^b plain by p bears 1;");
        city(4, P + "oath a widow by p bears ^0;");
        city(4, P + "oath a sure by p bears ^100;");
        good(P + "oath a sure by p bears 99;");
        StringBuilder ten = new StringBuilder(P);
        for (char c = 'a'; c < 'k'; c++) {
            ten.append("oath o").append(c).append(" old by p bears 1;");
        }
        good(ten.toString());
        city(5, ten + "^oath z plain by p bears 1;");
    }

    private static void pairs() {
        good(AB + "lean a b;clash a b;clash b c;clash c a;");
        city(1, AB + "lean ^; ");
        city(1, AB + "lean ^not b;");
        city(1, AB + "lean a b ^c;");
        city(2, AB + "lean ^p b;");
        city(2, AB + "lean a ^z;");
        city(3, AB + "lean a ^a;");
        city(3, AB + "lean a b;lean ^b c;");
        city(3, AB + "lean a b;lean ^a b;");
        city(3, AB + "lean a b;lean c ^a;");
        city(1, AB + "clash a ^;");
        city(2, AB + "clash ^q a;");
        city(2, AB + "clash a ^p;");
        city(3, AB + "clash a ^a;");
        city(3, AB + "clash a b;clash a ^b;");
        city(3, AB + "clash a b;clash b ^a;");
    }

    private static void stones() {
        good("stone s weighs 99 rent 99;");
        good(AB + "stone s weighs 0 rent 0 on a b;stone t weighs 0 rent 0 on s c;");
        city(1, "stone s ^rent 1;");
        city(1, "stone s weighs 1 ^on a;");
        city(1, AB + "stone s weighs 1 rent 1 on ^;");
        city(1, AB + "stone s weighs 1 rent 1 ^a;");
        city(1, AB + "stone s weighs 1 rent 1 on a ^on b;");
        city(1, AB + "stone s weighs 1 rent 1 on a ^");
        city(1, AB + "stone s weighs 1 rent 1 on a ^5;");
        city(2, AB + "stone s weighs 1 rent 1 on a ^p;");
        city(2, AB + "stone s weighs 1 rent 1 on ^s;");
        city(2, AB + "stone s weighs 1 rent 1 on ^t;stone t weighs 1 rent 1;");
        city(3, AB + "stone s weighs 1 rent 1 on a b ^a;");
        city(3, AB + "stone s weighs 1 rent 1;stone t weighs 1 rent 1 on s ^s;");
        city(3, AB + "stone ^a weighs 1 rent 1;");
        city(3, AB + "stone s weighs 1 rent 1;stone ^s weighs 1 rent 1;");
        city(3, "stone s weighs 1 rent 1;person ^s faith 1 tempt 1;");
        city(4, "stone s weighs ^100 rent 1;");
        city(4, "stone s weighs 1 rent ^100;");
        StringBuilder ten = new StringBuilder();
        for (char c = 'a'; c < 'k'; c++) {
            ten.append("stone s").append(c).append(" weighs 0 rent 1;");
        }
        good(ten.toString());
        city(5, ten + "^stone z weighs 1 rent 1;");
    }

    private static void laws() {
        good("age 1;mend 0;");
        good("mend 10;age base;");
        city(1, "mend ^;");
        city(1, "mend ^base;");
        city(4, "mend ^11;");
        city(3, "mend 1;^mend 1;");
        city(3, "age 1;^age 1;");
        city(1, "age^;");
        city(1, "age^");
        city(1, "age 1^");
        city(1, "age ^tip;");
        city(1, "age ^by;");
        city(1, "age 1 ^2;");
        city(1, "age 1 ^base;");
        city(1, "age 1+^;");
        city(1, "age ^+1;");
        city(1, "age 1-^-1;");
        city(1, "age 1<2^<3;");
        city(1, "age 1<2+3^=3;");
        good("age 1<2 and 3=3 or 4<5;");
        good("age (1<2)<3;");
        good("age 1<(2=3);");
        city(1, "age 1 ^not 2;");
        city(1, "age not ^;");
        city(1, "age ^and 1;");
        city(1, "age (1^;");
        city(1, "age (1+2)^);");
        city(1, "age (^);");
        city(1, "age 1^(2);");
        city(1, "age ^12345;");
        city(1, "age 1 ^/ 2;");
        good("age ((((1))));");
        city(5, "age (((((^1)))));");
        city(5, "age (((((^base");
        city(5, "age (((((^(");
        city(5, "age (((((^not");
        city(1, "age (((((^;");
        city(1, "age (((((^)");
        city(1, "age (((((^tip");
        good("age not not not not 1;");
        city(5, "age not not not not not ^1;");
        city(5, "age not not not not not ^not 1;");
        city(5, "age not(not(not ^1));");
        good("age not(not(1))+not(not(1))*not not(not 1);");
        good("age ((((1))))+((((2))));");
        city(5, "age 1+((((1+not ^2))));");
    }

    private static void lives() {
        good("");
        life(1, "^sing;");
        life(1, "^person x faith 1 tempt 1;");
        life(1, "break ^;");
        life(1, "break ^year;");
        life(1, "break a^");
        life(1, "year ^a;");
        life(1, "year;^;");
        life(2, "break ^p;");
        life(2, "break ^s;");
        life(2, "break ^z;");
        life(2, "forgive ^s;");
        life(2, "raise ^a;");
        life(2, "raise ^p;");
        String line = "year;";
        life(5, line.repeat(40) + "^year;");
        life(5, line.repeat(40) + "^break z;");
        life(1, line.repeat(40) + "^sing;");
        OathWalls walls = new OathWalls();
        CHECK.is("40 lines", Check.life(walls, line.repeat(40)), 0);
        CHECK.is("40 lines", walls.count(7), 40);
        CHECK.is("an empty life", walls.life(), 0);
        CHECK.is("an empty life", walls.count(7), 0);
        CHECK.is("break without a city", Check.life(walls, "break a;"), 2 + 16 * 6);
    }

    public static void main(String[] args) {
        tokens();
        people();
        oaths();
        pairs();
        stones();
        laws();
        lives();
        CHECK.end();
    }
}
