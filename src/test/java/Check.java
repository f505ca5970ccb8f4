/** Counts what is not as due and says so. */
final class Check {
    private int wrong;
    private int asked;

    void is(String what, long got, long due) {
        asked++;
        if (got != due) {
            wrong++;
            if (wrong <= 50) {
                System.out.println(what + ": " + got + ", due is " + due);
            }
        }
    }

    void is(String what, boolean got, boolean due) {
        is(what, got ? 1 : 0, due ? 1 : 0);
    }

    int wrong() {
        return wrong;
    }

    void end() {
        System.out.println(asked + " answers, " + wrong + " wrong");
        if (wrong != 0) {
            System.exit(1);
        }
    }

    /** Feeds a whole text, and answers how many signs are on the tape then. */
    static int feed(OathWalls walls, String text) {
        int on = walls.count(12);
        for (int from = 0; from < text.length(); from += 24) {
            on = walls.feed(eight(text, from), eight(text, from + 8), eight(text, from + 16));
        }
        return on;
    }

    static long eight(String text, int from) {
        long bytes = 0;
        for (int i = from; i < from + 8; i++) {
            bytes = bytes << 8 | (i < text.length() ? text.charAt(i) & 255 : 0);
        }
        return bytes;
    }

    static int city(OathWalls walls, String text) {
        feed(walls, text);
        return walls.city();
    }

    static int life(OathWalls walls, String text) {
        feed(walls, text);
        return walls.life();
    }
}
