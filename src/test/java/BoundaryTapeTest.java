/** The tape and its tokens: a test for each sentence that names a boundary. */
public final class BoundaryTapeTest {
    private static final Check CHECK = new Check();
    private static final long BLANKS = 0x2020202020202020L;

    private static OathWalls blanks(int many) {
        OathWalls walls = new OathWalls();
        Check.feed(walls, " ".repeat(many));
        return walls;
    }

    private static void atMostThousand() {
        CHECK.sentence("2", "The TAPE has at most 1,000 signs");
        OathWalls walls = new OathWalls();
        for (int i = 1; i <= 41; i++) {
            CHECK.is("feed " + i, walls.feed(BLANKS, BLANKS, BLANKS), 24 * i);
        }
        CHECK.is("999", walls.feed(BLANKS, BLANKS >>> 8, 0), 999);
        CHECK.is("999 are there", walls.count(12), 999);
        CHECK.is("1,000", walls.feed(0, 0, 32), 1000);
        CHECK.is("1,001", walls.feed(0, 0, 32), 1000);
        CHECK.is("1,024", walls.feed(BLANKS, BLANKS, BLANKS), 1000);
        CHECK.is("1,000 are there", walls.count(12), 1000);
        CHECK.is("and are read", walls.city(), 0);
        CHECK.sentence("2", "what is beyond 1,000, are left out");
        CHECK.is("the last of 1,000 ends the line", Check.city(blanks(993), "mend 5;"), 0);
        CHECK.is("and what follows is not there", Check.city(blanks(993), "mend 5;person"), 0);
        CHECK.is("the 1,001st would have ended it", Check.city(blanks(994), "mend 5;"), 1 + 16 * 1000);
        CHECK.is("a word is cut", Check.city(blanks(997), "mend 5;"), 1 + 16 * 997);
        CHECK.is("the last sign alone", Check.city(blanks(999), "mend 5;"), 1 + 16 * 999);
        CHECK.is("of a full tape nothing", Check.city(blanks(1000), "mend 5;"), 0);
        OathWalls within = blanks(980);
        CHECK.is("up to 1,000 within one feed", within.feed(0x2020202020202020L, 0x2020202020202020L, 0x2020203b3b3b3b3bL), 1000);
        CHECK.is("the first of the ; is the 1,000th", within.city(), 1 + 16 * 999);
    }

    private static void whichSigns() {
        CHECK.sentence("2", "others than 10 and 32 .. 126 are left out");
        for (int sign = 0; sign < 256; sign++) {
            int kept = sign == 10 || sign >= 32 && sign <= 126 ? 1 : 0;
            OathWalls walls = new OathWalls();
            for (int at = 0; at < 8; at++) {
                long bytes = (long) sign << 8 * at;
                CHECK.is("a, sign " + sign, walls.feed(bytes, 0, 0), kept * (3 * at + 1));
                CHECK.is("b, sign " + sign, walls.feed(0, bytes, 0), kept * (3 * at + 2));
                CHECK.is("c, sign " + sign, walls.feed(0, 0, bytes), kept * (3 * at + 3));
            }
        }
        OathWalls ends = new OathWalls();
        CHECK.is("31, 127, 9, 11, 13 and 255", ends.feed(0x1f7f090b0dffL, -1L, Long.MIN_VALUE), 0);
        CHECK.is("the last of c", ends.feed(0, 0, 126), 1);
        OathWalls walls = new OathWalls();
        walls.feed(Check.eight("me\tnd\u00ed\u007f ", 0), Check.eight("\0005\rb\u001f;\0\0", 0), 0);
        CHECK.is("what is left out parts nothing, and has no place", walls.city(), 1 + 16 * 6);
        CHECK.is("so the rest is a line", Check.city(new OathWalls(), "me\tnd\r 5\u00bb;"), 0);
    }

    private static void order() {
        CHECK.sentence("2", "Up to 24 signs come behind the TAPE: the bytes of a, b, c, of each the highest first");
        OathWalls walls = new OathWalls();
        CHECK.is("24", walls.feed(0x706572736f6e2061L, 0x2066616974682031L, 0x302074656d707420L), 24);
        CHECK.is("one more", walls.feed(0, 0x39L << 56, 0x3bL), 26);
        CHECK.is("person a faith 10 tempt 9;", walls.city(), 0);
        CHECK.is("faith", walls.person(0, 0), 10);
        CHECK.is("tempt", walls.person(0, 1), 9);
        CHECK.is("nothing more", walls.feed(0, 0, 0), 0);
        CHECK.is("a ahead of b ahead of c", walls.feed(0x6d, 0x65, 0x6e), 3);
        CHECK.is("the next behind", walls.feed(0x6420373bL, 0, 0), 7);
        CHECK.is("mend 7;", walls.city(), 0);
    }

    private static void isTaken() {
        CHECK.sentence("3", "what reads it takes it: it is empty then");
        String city = "person p faith 1 tempt 1;oath a plain by p bears 1;";
        OathWalls walls = new OathWalls();
        CHECK.is("a city", Check.city(walls, city), 0);
        CHECK.is("is taken", walls.count(12), 0);
        CHECK.is("a fault at its first sign", Check.city(walls, "." + city), 1);
        CHECK.is("is taken whole", walls.count(12), 0);
        CHECK.is("nothing is before what comes then", walls.feed(0, 0, 59), 1);
        CHECK.is("a fault", walls.city(), 1);
        CHECK.sentence("4", "what reads it takes it: it is empty then");
        CHECK.is("a life", Check.life(walls, "year;break a;"), 0);
        CHECK.is("is taken", walls.count(12), 0);
        CHECK.is("a fault at its first sign", Check.life(walls, ".year;"), 1);
        CHECK.is("is taken whole", walls.count(12), 0);
        CHECK.is("an empty life", walls.life(), 0);
        CHECK.is("no lines", walls.count(7), 0);
        CHECK.is("an empty city", walls.city(), 0);
        CHECK.is("no oaths", walls.count(1), 0);
    }

    private static void longTokens() {
        CHECK.sentence("3", "TOKENS, each as long as can be");
        CHECK.bad(1, "^mendmend 5;");
        CHECK.bad(1, "^personp faith 1 tempt 1;");
        CHECK.bad(1, "person p ^faiths 1 tempt 1;");
        CHECK.bad(4, "mend ^55;");
        CHECK.bad(1, "age ^nots;");
        CHECK.bad(1, "age 1 ^andor 1;");
        CHECK.of("person notp faith 1 tempt 1;person ons faith 1 tempt 1;person years faith 1 tempt 1;");
        CHECK.sentence("3", "blanks (10, 32) between where one likes");
        CHECK.of(" \n person\n\n p \n faith 1tempt\n0  ;\n ");
        CHECK.of("person p faith1tempt1;oath a plain by p bears7;stone s weighs3rent4on a;age(1)+not(2)and 3or 4<5;mend5;");
        CHECK.of(" ");
        CHECK.of("\n");
        CHECK.bad(1, "^me nd 5;");
        CHECK.bad(1, "^me\nnd 5;");
        CHECK.bad(1, "mend 0 ^5;");
        CHECK.bad(1, "mend 0\n^5;");
        CHECK.bad(1, "\n \n^nd 5;");
        OathWalls parted = CHECK.of("person p faith 1 tempt 1;oath a plain by p bears 1;oath b plain by p bears 1;clash a\nb;lean\na b;");
        CHECK.is("two", parted.count(9) + parted.count(10), 2);
    }

    private static void words() {
        CHECK.sentence("3", "WORDS (letters a .. z, 8 at most)");
        for (int sign = 32; sign < 127; sign++) {
            char c = (char) sign;
            boolean letter = c >= 'a' && c <= 'z';
            boolean digit = c >= '0' && c <= '9';
            int due = sign == 32 || c == '0' ? 0 : letter ? 1 : digit ? 4 + 16 * 4 : 1 + 16 * 4;
            CHECK.is("mend" + c + "5;", Check.city(new OathWalls(), "mend" + c + "5;"), due);
        }
        CHECK.of("person a faith 1 tempt 1;person z faith 1 tempt 1;person azazazaz faith 1 tempt 1;");
        CHECK.of("person abcdefgh faith 1 tempt 1;person abcdefgi faith 1 tempt 1;person zbcdefgh faith 1 tempt 1;"
                + "person abcdefg faith 1 tempt 1;person bcdefgh faith 1 tempt 1;");
        CHECK.bad(3, "person abcdefgh faith 1 tempt 1;person ^abcdefgh faith 1 tempt 1;");
        CHECK.of("person a faith 1 tempt 1;person aa faith 1 tempt 1;person aaa faith 1 tempt 1;person aaaa faith 1 tempt 1;"
                + "person aaaaaaa faith 1 tempt 1;person aaaaaaaa faith 1 tempt 1;");
        CHECK.bad(1, "person ^A faith 1 tempt 1;");
        CHECK.bad(1, "person ^Z faith 1 tempt 1;");
        CHECK.bad(1, "person ^` faith 1 tempt 1;");
        CHECK.bad(1, "person ^{ faith 1 tempt 1;");
        CHECK.bad(1, "person p^{ faith 1 tempt 1;");
        CHECK.sentence("3", "All else (a longer WORD, too, at its first sign) is none");
        CHECK.bad(1, "person ^abcdefghi faith 1 tempt 1;");
        CHECK.bad(1, "person ^abcdefghabcdefghabcdefghabcdefgh faith 1 tempt 1;");
        CHECK.bad(1, "^aaaaperson p faith 1 tempt 1;");
        CHECK.bad(1, "person p faith 1 tempt 1;person ^ppppppppp faith 1 tempt 1;");
    }

    private static void numbers() {
        CHECK.sentence("3", "NUMBERS (1 to 4 digits; a letter may stand right behind)");
        CHECK.of("mend 5;");
        CHECK.of("mend 05;");
        CHECK.of("mend 005;");
        CHECK.of("mend 0005;");
        CHECK.bad(4, "mend ^9999;");
        CHECK.bad(4, "mend ^1000;");
        CHECK.bad(1, "mend ^/;");
        CHECK.bad(1, "mend ^:;");
        CHECK.bad(1, "mend 5^:;");
        OathWalls walls = CHECK.of("person p faith 0010tempt 0099;");
        CHECK.is("faith", walls.person(0, 0), 10);
        CHECK.is("tempt", walls.person(0, 1), 99);
        CHECK.bad(1, "person p faith 1^x tempt 1;");
        CHECK.bad(1, "person p faith 1^tempts 1;");
        CHECK.sentence("3", "All else (a longer NUMBER, too, at its first sign) is none");
        CHECK.bad(1, "mend ^00005;");
        CHECK.bad(1, "mend ^10000;");
        CHECK.bad(1, "mend ^0000000000000000000000005;");
        CHECK.bad(1, "mend ^4294967301;");
        CHECK.bad(1, "person p faith ^00001tempt 1;");
        CHECK.bad(1, "age ^12345;");
    }

    private static void signs() {
        CHECK.sentence("3", "the signs ( ) < = + - * ;  All else is none");
        for (int sign = 32; sign < 127; sign++) {
            char c = (char) sign;
            boolean joins = "<=+-*0123456789".indexOf(c) >= 0;
            int due = joins ? 0 : 1 + 16 * (c == ' ' || c == ';' ? 6 : 5);
            CHECK.is("age 1" + c + "1;", Check.city(new OathWalls(), "age 1" + c + "1;"), due);
        }
        CHECK.of("age (1);");
        CHECK.bad(1, "age 1 ^> 1;");
        CHECK.bad(1, "age ^[1];");
        CHECK.bad(1, "age 1 ^/ 1;");
        CHECK.bad(1, "mend 5^:");
        CHECK.bad(1, "mend 5^,");
    }

    public static void main(String[] args) {
        atMostThousand();
        whichSigns();
        order();
        isTaken();
        longTokens();
        words();
        numbers();
        signs();
        CHECK.end();
    }
}
