import java.util.ArrayList;
import java.util.List;
import java.util.NoSuchElementException;
import java.util.Random;

/** Random cities, lives and calls: each answer is compared with the oracle's. */
public final class OracleTest {
    private static final String[] FACTS = {"base", "years", "kind", "alone"};
    private static final String[] KINDS = {"plain", "old", "sure", "widow"};
    private static final String[] JUNK = {"person", "by", "on", ";", "(", ")", "not", "and", "<", "=", "7", "123", "9999",
        "12345", "abcdefghi", "zz", "base", ".", "A", "-", "*", "+", "oath", "stone", "age", "mend", "x", "year", "break"};

    // The first half can begin a part of a law, the second half can stand behind one.
    private static final String[] SOUP_OF_LAW = {"base", "years", "7", "alone", "(", "(", "((", "not", "not(", "not not", "kind",
        "+", "-", "*", "<", "=", "and", "or", ")", ")+", ")*", ")<"};

    private final Random random;
    private final Check check;
    private OathWalls walls;
    private Oracle oracle;
    private int seed;
    private List<String> people;
    private List<String> oaths;
    private List<String> stones;

    private OracleTest(int seed, Check check) {
        this.seed = seed;
        this.check = check;
        random = new Random(seed);
    }

    public static void main(String[] args) {
        int runs = args.length > 0 ? Integer.parseInt(args[0]) : 1500;
        int from = args.length > 1 ? Integer.parseInt(args[1]) : 1;
        Check check = new Check();
        for (int seed = from; seed < from + runs && check.wrong() < 20; seed++) {
            new OracleTest(seed, check).run(random(seed));
        }
        check.end();
    }

    private static int random(int seed) {
        return seed % 25 == 0 ? 2 : seed % 5 == 0 ? 1 : 0;
    }

    private int below(int n) {
        return random.nextInt(n);
    }

    private boolean chance(int ofTen) {
        return below(10) < ofTen;
    }

    /** Size 0: small cities and many calls; 1: middling; 2: as large as can be, few dear calls. */
    private void run(int size) {
        walls = new OathWalls();
        oracle = new Oracle();
        tellCity(size);
        walls.mark(0, false);
        oracle.mark(0, false);
        int calls = size == 2 ? 60 : 250;
        for (int i = 0; i < calls; i++) {
            call(size);
        }
        look();
        for (int i = 0; i < 20; i++) {
            tellSoup();
        }
    }

    /** Tokens of the language in any order: most are wrong somewhere, and the place counts. */
    private void tellSoup() {
        boolean law = chance(6);
        StringBuilder text = new StringBuilder(law ? "age " : "");
        String[] words = law ? SOUP_OF_LAW : JUNK;
        int many = below(law ? 24 : 8);
        for (int i = 0; i < many; i++) {
            boolean part = i % 2 == 0;
            int pick = chance(8) ? (part ? below(words.length / 2) : words.length / 2 + below(words.length / 2)) : below(words.length);
            text.append(words[pick]).append(chance(8) ? " " : "");
        }
        text.append(chance(8) ? ";" : "");
        OathWalls ours = new OathWalls();
        Oracle theirs = new Oracle();
        for (int from = 0; from < text.length(); from += 24) {
            String all = text.toString();
            ours.feed(Check.eight(all, from), Check.eight(all, from + 8), Check.eight(all, from + 16));
            theirs.feed(Check.eight(all, from), Check.eight(all, from + 8), Check.eight(all, from + 16));
        }
        is("soup " + text, ours.city(), theirs.city());
    }

    // ---- texts

    private String name(List<String> some, List<String> others) {
        if (chance(9) || others.isEmpty()) {
            return some.isEmpty() ? "none" : some.get(below(some.size()));
        }
        return others.get(below(others.size()));
    }

    private String part(int depth) {
        int kind = below(10);
        if (depth >= 4 || kind < 4) {
            return FACTS[below(4)];
        }
        if (kind < 7) {
            return "" + (chance(8) ? below(20) : below(10000));
        }
        return kind < 8 ? "not " + part(depth + 1) : "(" + law(depth + 1) + ")";
    }

    private String joined(int depth, int level) {
        if (level == 0) {
            return part(depth);
        }
        StringBuilder text = new StringBuilder(joined(depth, level - 1));
        String[][] joints = {{}, {"*"}, {"+", "-"}, {"<", "="}, {" and ", " or "}};
        int more = level == 3 ? (chance(3) ? 1 : 0) : chance(4) ? 1 + below(2) : 0;
        for (int i = 0; i < more; i++) {
            text.append(joints[level][below(joints[level].length)]).append(joined(depth, level - 1));
        }
        return text.toString();
    }

    private String law(int depth) {
        return joined(depth, 4);
    }

    private String usefulLaw() {
        String[] laws = {"base+years", "base*(1+alone)", "base-years", "base*(kind<2)+years*3", "base+5*alone-years*(kind=1)",
            "base*(years<3 or kind=2)", "9*(not alone)+base", "base-4*alone", "base*base-years*base", "99999-9"};
        return chance(5) ? laws[below(laws.length)] : law(0);
    }

    private String randomCity(int size) {
        people = new ArrayList<>();
        oaths = new ArrayList<>();
        stones = new ArrayList<>();
        boolean bare = below(30) == 0;
        int manyPeople = bare ? below(2) : size == 2 ? 6 : size == 1 ? 2 + below(5) : 1 + below(4);
        int manyOaths = bare ? below(3) : size == 2 ? 9 + below(2) : size == 1 ? 4 + below(5) : 2 + below(5);
        int manyStones = bare ? below(3) : size == 2 ? 9 + below(2) : size == 1 ? 4 + below(4) : 2 + below(5);
        int heavy = 2 + below(24);
        StringBuilder text = new StringBuilder();
        if (chance(4)) {
            text.append("age ").append(usefulLaw()).append(";");
        }
        for (int i = 0; i < manyPeople; i++) {
            people.add("" + (char) ('a' + i));
            text.append("person " + people.get(i) + " faith" + below(11) + "tempt" + below(chance(5) ? 20 : 100) + ";");
        }
        for (int i = 0; i < manyOaths && manyPeople > 0; i++) {
            oaths.add("o" + (char) ('a' + i));
            text.append("oath " + oaths.get(i) + " " + KINDS[chance(6) ? 0 : below(4)] + " by " + people.get(below(manyPeople))
                    + " bears" + (1 + below(chance(7) ? 20 : 99)) + ";");
        }
        for (int i = 0; i < manyStones; i++) {
            stones.add("s" + (char) ('a' + i));
            text.append("stone " + stones.get(i) + " weighs" + below(chance(9) ? heavy : 40) + "rent" + below(20));
            StringBuilder on = new StringBuilder();
            for (String o : oaths) {
                on.append(below(oaths.size() + 1) < 2 ? " " + o : "");
            }
            for (int j = 0; j < i; j++) {
                on.append(below(i + 2) < 2 ? " " + stones.get(j) : "");
            }
            if (on.length() == 0 && !oaths.isEmpty() && !chance(1)) {
                on.append(" " + oaths.get(below(oaths.size())));
            }
            text.append(on.length() > 0 ? "on" + on : "").append(";");
        }
        List<String> free = new ArrayList<>(oaths);
        while (free.size() > 1 && chance(4)) {
            text.append("lean " + free.remove(below(free.size())) + " " + free.remove(below(free.size())) + ";");
        }
        for (int i = 0; i + 1 < oaths.size(); i++) {
            if (chance(2)) {
                text.append("clash " + oaths.get(i) + " " + oaths.get(i + 1 + below(oaths.size() - i - 1)) + ";");
            }
        }
        if (chance(5)) {
            text.append("mend " + below(11) + ";");
        }
        return text.toString();
    }

    private String spoilt(String text) {
        String result = text;
        int many = 1 + below(2);
        for (int i = 0; i < many && !result.isEmpty(); i++) {
            int at = below(result.length());
            switch (below(4)) {
                case 0 -> result = result.substring(0, at) + result.substring(at + 1);
                case 1 -> result = result.substring(0, at) + " " + JUNK[below(JUNK.length)] + " " + result.substring(at);
                case 2 -> result = result.substring(0, at);
                default -> {
                    int end = Math.min(result.length(), at + 1 + below(12));
                    result = result.substring(0, at) + result.substring(at, end) + result.substring(at);
                }
            }
        }
        return result;
    }

    private String randomLife() {
        StringBuilder text = new StringBuilder();
        int many = chance(1) ? 38 + below(6) : below(12);
        for (int i = 0; i < many; i++) {
            switch (below(4)) {
                case 0 -> text.append("break " + name(oaths, chance(1) ? people : oaths) + ";");
                case 1 -> text.append("forgive " + name(oaths, chance(1) ? stones : oaths) + ";");
                case 2 -> text.append("raise " + name(stones, chance(1) ? oaths : stones) + ";");
                default -> text.append(" year ;\n");
            }
        }
        return text.toString();
    }

    private void feed(String text) {
        int from = 0;
        while (from < text.length()) {
            long a = Check.eight(text, from);
            long b = Check.eight(text, from + 8);
            long c = Check.eight(text, from + 16);
            is("feed", walls.feed(a, b, c), oracle.feed(a, b, c));
            from += 24;
        }
    }

    private void is(String what, long got, long due) {
        check.is("seed " + seed + " " + what, got, due);
    }

    private void is(String what, boolean got, boolean due) {
        is(what, got ? 1 : 0, due ? 1 : 0);
    }

    private void tellCity(int size) {
        List<String> oldPeople = people;
        List<String> oldOaths = oaths;
        List<String> oldStones = stones;
        String text = randomCity(size);
        for (int i = 0; i < 20 && text.length() > 1000; i++) {
            text = randomCity(size);
        }
        boolean spoil = chance(3) && size < 2 && oldPeople != null;
        String fed = spoil ? spoilt(text) : text;
        feed(fed);
        int due = oracle.city();
        is("city " + fed, walls.city(), due);
        if (due != 0 && oldPeople != null) {
            people = oldPeople;
            oaths = oldOaths;
            stones = oldStones;
        }
        look();
    }

    // ---- calls

    private int oath() {
        return chance(9) && !oaths.isEmpty() ? below(oaths.size()) : below(14) - 2;
    }

    private int stone() {
        return chance(9) && !stones.isEmpty() ? below(stones.size()) : below(14) - 2;
    }

    private int odd(int value) {
        return below(40) == 0 ? random.nextInt() : below(60) == 0 ? Integer.MIN_VALUE : below(60) == 0 ? Integer.MAX_VALUE : value;
    }

    private void look() {
        for (int what = -1; what < 14; what++) {
            is("count " + what, walls.count(what), oracle.count(what));
        }
        for (int i = -1; i < 11; i++) {
            for (int what = -1; what < 9; what++) {
                is("person " + i + " " + what, walls.person(i, what), oracle.person(i, what));
                is("oath " + i + " " + what, walls.oath(i, what), oracle.oath(i, what));
                is("stone " + i + " " + what, walls.stone(i, what), oracle.stone(i, what));
            }
        }
    }

    private void call(int size) {
        int kind = below(100);
        if (below(12) == 0) {
            is("home", walls.mark(0, true), oracle.mark(0, true));
        }
        if (kind < 10) {
            int o = odd(oath());
            is("breaks " + o, walls.breaks(o), oracle.breaks(o));
        } else if (kind < 16) {
            int o = odd(oath());
            is("forgive " + o, walls.forgive(o), oracle.forgive(o));
        } else if (kind < 22) {
            int s = odd(stone());
            is("raise " + s, walls.raise(s), oracle.raise(s));
        } else if (kind < 28) {
            int y = odd(chance(9) ? 1 + below(4) : below(104) - 1);
            is("years " + y, walls.years(y), oracle.years(y));
        } else if (kind < 32) {
            is("undo", walls.undo(), oracle.undo());
        } else if (kind < 35) {
            boolean back = chance(5);
            int m = odd(back ? below(5) : 1 + below(4));
            is("mark " + m + " " + back, walls.mark(m, back), oracle.mark(m, back));
        } else if (kind < 39) {
            int s = odd(stone());
            boolean up = chance(5);
            is("hear " + s, walls.hear(s, up), oracle.hear(s, up));
        } else if (kind < 41) {
            String text = chance(2) ? spoilt(randomLife()) : randomLife();
            feed(text);
            is("life " + text, walls.life(), oracle.life());
        } else if (kind < 42) {
            if (chance(5)) {
                tellCity(size);
                walls.mark(0, false);
                oracle.mark(0, false);
            } else {
                look();
            }
        } else {
            ask(size);
        }
    }

    private void ask(int size) {
        switch (below(13)) {
            case 0 -> {
                int what = odd(below(5) - 1);
                is("judged " + what, walls.judged(what), oracle.judged(what));
            }
            case 1 -> is("bears", walls.bears(), oracle.bears());
            case 2 -> {
                int set = odd(below((1 << oaths.size()) + 1));
                is("stands " + set, walls.stands(set), oracle.stands(set));
            }
            case 3 -> {
                int s = odd(stone());
                is("weakest " + s, walls.weakest(s), oracle.weakest(s));
            }
            case 4 -> {
                int s = odd(stone());
                is("sure " + s, walls.sure(s), oracle.sure(s));
            }
            case 5 -> {
                if (size < 2 || chance(1)) {
                    int weight = odd(chance(8) ? below(20) : below(102) - 1);
                    int what = odd(below(2));
                    is("surest " + weight + " " + what, walls.surest(weight, what), oracle.surest(weight, what));
                }
            }
            case 6 -> is("keep", walls.keep(), oracle.keep());
            case 7 -> {
                int many = odd(size == 2 ? 1 : 1 + below(3));
                int what = odd(below(5) - 1);
                is("repair " + many + " " + what, walls.repair(many, what), oracle.repair(many, what));
            }
            case 8, 9 -> {
                int most = odd(below(12) - 1);
                int what = odd(below(6) - 1);
                is("broken " + most + " " + what, walls.broken(most, what), oracle.broken(most, what));
            }
            case 10 -> {
                int what = odd(below(5) - 2);
                is("rests " + what, walls.rests(what), oracle.rests(what));
            }
            case 11 -> {
                int p = odd(below(people.size() + 2) - 1);
                int choices = odd(below((1 << people.size()) + 2) - 1);
                is("gains " + p + " " + choices, gains(true, p, choices), gains(false, p, choices));
            }
            default -> {
                int from = odd(below(10000));
                int years = odd(chance(8) ? 1 + below(9) : size == 2 ? 1 + below(9) : below(102));
                int what = odd(below(4) - below(2));
                is("centuries " + from + " " + years + " " + what,
                        walls.centuries(from, years, what), oracle.centuries(from, years, what));
            }
        }
    }

    /** What is thrown counts as a number that no gain can be. */
    private int gains(boolean ours, int person, int choices) {
        try {
            return ours ? walls.gains(person, choices) : oracle.gains(person, choices);
        } catch (NoSuchElementException e) {
            return -1000;
        }
    }
}
