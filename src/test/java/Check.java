/** Counts what is not as due and says so. */
final class Check {
    private int wrong;
    private int asked;
    private int inSentence = 1;
    private String sentence = "";

    /** From here on a sentence of the document is tested; one that nothing was asked of is wrong, too. */
    void sentence(String promise, String words) {
        endSentence();
        sentence = "promise " + promise + ", \"" + words + "\": ";
        inSentence = 0;
    }

    private void endSentence() {
        if (inSentence == 0) {
            wrong++;
            System.out.println(sentence + "nothing was asked");
        }
    }

    void is(String what, long got, long due) {
        asked++;
        inSentence++;
        if (got != due) {
            wrong++;
            if (wrong <= 50) {
                System.out.println(sentence + what + ": " + got + ", due is " + due);
            }
        }
    }

    void is(String what, boolean got, boolean due) {
        is(what, got ? 1 : 0, due ? 1 : 0);
    }

    int wrong() {
        return wrong;
    }

    void end() {
        endSentence();
        System.out.println(asked + " answers, " + wrong + " wrong");
        if (wrong != 0) {
            System.exit(1);
        }
    }

    /** Feeds a whole text, and answers how many signs are on the tape then. */
    static int feed(OathWalls walls, String text) {
        int on = walls.count(12);
        for (int from = 0; from < text.length(); from += 24) {
            on = walls.feed(eight(text, from), eight(text, from + 8), eight(text, from + 16));
        }
        return on;
    }

    static long eight(String text, int from) {
        long bytes = 0;
        for (int i = from; i < from + 8; i++) {
            bytes = bytes << 8 | (i < text.length() ? text.charAt(i) & 255 : 0);
        }
        return bytes;
    }

    /** A new object with the city told; that it has a fault is wrong. */
    OathWalls of(String text) {
        OathWalls walls = new OathWalls();
        is(text, city(walls, text), 0);
        return walls;
    }

    /** A city with a fault of this kind: a sign ^ stands ahead of the token that is wrong (and is not fed). */
    void bad(int kind, String marked) {
        OathWalls walls = new OathWalls();
        is(marked, city(walls, marked.replace("^", "")), kind + 16 * marked.indexOf('^'));
        is(marked + " takes the tape", walls.count(12), 0);
        is(marked + " is no city", walls.count(0) + walls.count(1) + walls.count(2), 0);
    }

    /** Likewise a life, of a city that is told ahead of it. */
    void badLife(int kind, String city, String marked) {
        OathWalls walls = of(city);
        is(marked, life(walls, marked.replace("^", "")), kind + 16 * marked.indexOf('^'));
        is(marked + " takes the tape", walls.count(12), 0);
        is(marked + " is no life", walls.count(7), 0);
    }

    static int city(OathWalls walls, String text) {
        feed(walls, text);
        return walls.city();
    }

    static int life(OathWalls walls, String text) {
        feed(walls, text);
        return walls.life();
    }
}
