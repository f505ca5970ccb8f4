import java.lang.management.ManagementFactory;
import java.util.NoSuchElementException;

/** An object is used for at most 512 calls: each promise holds for all of them, and they make next to nothing. */
public final class BoundaryCallsTest {
    private static final Check CHECK = new Check();
    private static final int CALLS = 512;

    private static void is(String what, long got, long due) {
        CHECK.is(what, got, due);
    }

    private static void is(String what, boolean got, boolean due) {
        CHECK.is(what, got, due);
    }

    /** As large as can be: six people, ten oaths, ten stones. */
    private static String large() {
        StringBuilder text = new StringBuilder("age base+alone*(years<99);");
        for (char c = 'a'; c < 'g'; c++) {
            text.append("person ").append(c).append(" faith").append(c - 'a' + 2).append("tempt5;");
        }
        for (char c = 'a'; c < 'k'; c++) {
            text.append("oath o").append(c).append(" plain by ").append((char) ('a' + (c - 'a') % 6)).append(" bears20;");
        }
        for (char c = 'a'; c < 'k'; c++) {
            char next = (char) (c < 'j' ? c + 1 : 'a');
            text.append("stone s").append(c).append(" weighs9rent3on o").append(c).append(" o").append(next);
            text.append(c > 'a' ? " s" + (char) (c - 1) : "").append(';');
        }
        return text.toString();
    }

    private static void everyKind() {
        CHECK.sentence("1", "An object is used for at most 512 calls: years");
        OathWalls years = new OathWalls();
        for (int i = 1; i < CALLS; i++) {
            is("years", years.years(100), 0);
        }
        is("51,100", years.count(3), 51100);
        CHECK.sentence("2", "An object is used for at most 512 calls: feed");
        OathWalls fed = new OathWalls();
        for (int i = 1; i <= CALLS; i++) {
            is("feed " + i, fed.feed(59, 0, 59), Math.min(2 * i, 1000));
        }
        CHECK.sentence("3", "An object is used for at most 512 calls: city, life");
        OathWalls told = new OathWalls();
        for (int i = 0; i < CALLS / 8; i++) {
            is("three feeds", Check.feed(told, "person p faith 1 tempt 1;oath a old by p bears 7;mend 5;"), 56);
            is("city " + i, told.city(), 0);
            is("it has " + i, told.count(1), 1);
            is("life " + i, told.life(), 0);
        }
        CHECK.sentence("8", "An object is used for at most 512 calls: breaks, forgive, undo");
        OathWalls deeds = new OathWalls();
        Check.city(deeds, "person p faith 1 tempt 1;oath a old by p bears 7;stone s weighs 7 rent 1 on a;mend 10;");
        for (int i = 0; i < 100; i++) {
            is("breaks " + i, deeds.breaks(0), 1);
            is("forgive " + i, deeds.forgive(0), true);
            is("raise " + i, deeds.raise(0), true);
            is("undo " + i, deeds.undo(), true);
            is("raise " + i, deeds.raise(0), true);
        }
        is("16 can be undone", deeds.count(11), 16);
        CHECK.sentence("26", "An object is used for at most 512 calls: mark, hear");
        OathWalls marks = new OathWalls();
        Check.city(marks, "stone s weighs 0 rent 1;");
        for (int i = 0; i < 125; i++) {
            is("mark " + i, marks.mark(i % 4, false), true);
            is("hear " + i, marks.hear(0, true), true);
            is("back " + i, marks.mark(i % 4, true), true);
        }
    }

    private static int asked(OathWalls walls, int which) {
        switch (which % 14) {
            case 0:
                return walls.surest(1, 0);
            case 1:
                return walls.surest(99, 1);
            case 2:
                return walls.weakest(9);
            case 3:
                return walls.sure(9);
            case 4:
                return walls.keep();
            case 5:
                return walls.repair(3, 1);
            case 6:
                return walls.broken(10, 3);
            case 7:
                return walls.rests(OathWalls.NONE);
            case 8:
                return walls.centuries(7, 100, 1);
            case 9:
                return walls.judged(2);
            case 10:
                return walls.bears();
            case 11:
                return walls.stands(1000);
            case 12:
                return walls.oath(9, 3);
            default:
                try {
                    return walls.gains(6, 0);
                } catch (NoSuchElementException e) {
                    return -7;
                }
        }
    }

    private static void sameAnswers() {
        CHECK.sentence("14 to 25", "An object is used for at most 512 calls: the same moment, the same answers");
        OathWalls walls = new OathWalls();
        Check.city(walls, large());
        for (int o = 0; o < 4; o++) {
            walls.breaks(o * 2);
        }
        int[] first = new int[14];
        for (int i = 0; i < 14; i++) {
            first[i] = asked(walls, i);
        }
        int made = 60;
        for (int i = 0; i < CALLS - made; i++) {
            int which = i * 5 % 14;
            is("asked " + which, asked(walls, which), first[which]);
        }
    }

    private static long bytesMade() {
        return ((com.sun.management.ThreadMXBean) ManagementFactory.getThreadMXBean()).getCurrentThreadAllocatedBytes();
    }

    private static void room() {
        CHECK.sentence("1", "all calls of one run live in one room (512 calls of one kind make less than a hundredth of it)");
        for (int kind = 0; kind < 14; kind++) {
            long before = bytesMade();
            OathWalls walls = new OathWalls();
            long made = bytesMade() - before;
            is("an object is made of little", made < 200000, true);
            Check.city(walls, large());
            walls.breaks(1);
            walls.breaks(3);
            walls.breaks(5);
            before = bytesMade();
            for (int i = 0; i < 450; i++) {
                asked(walls, kind);
            }
            is("calls of kind " + kind, bytesMade() - before < 600000, true);
        }
    }

    public static void main(String[] args) {
        everyKind();
        sameAnswers();
        room();
        CHECK.end();
    }
}
