import java.math.BigInteger;
import java.util.ArrayDeque;
import java.util.ArrayList;
import java.util.Arrays;
import java.util.HashMap;
import java.util.HashSet;
import java.util.List;
import java.util.Map;
import java.util.NoSuchElementException;
import java.util.Set;

/** The document written a second time, as slowly and as literally as can be, to be compared with. */
final class Oracle {
    static final Set<String> RESERVED = new HashSet<>(Arrays.asList(
            "person", "faith", "tempt", "oath", "by", "bears", "lean", "clash", "stone", "weighs", "rent", "on",
            "age", "mend", "break", "forgive", "raise", "year", "plain", "old", "sure", "widow", "not", "and", "or"));

    static final class Fault extends RuntimeException {
        private static final long serialVersionUID = 1L;
        final int code;

        Fault(int kind, int place) {
            super(null, null, false, false);
            code = kind + 16 * place;
        }
    }

    static final class Token {
        final char sort; // w, n, s, x (none), e (the end)
        final String text;
        final int place;

        Token(char sort, String text, int place) {
            this.sort = sort;
            this.text = text;
            this.place = place;
        }

        boolean isName() {
            return sort == 'w' && !RESERVED.contains(text);
        }
    }

    static final class Person {
        String name;
        int faith;
        int tempt;
    }

    static final class Oath {
        String name;
        int kind;
        int who;
        int bears;
        int lean = -1;
        Set<Integer> clash = new HashSet<>();
    }

    static final class Stone {
        String name;
        int weight;
        int rent;
        Set<Integer> oaths = new HashSet<>();
        Set<Integer> stones = new HashSet<>();
    }

    static final class City {
        List<Person> people = new ArrayList<>();
        List<Oath> oaths = new ArrayList<>();
        List<Stone> stones = new ArrayList<>();
        Object[] age; // a tree: {"number", n}, {"fact", name}, {"not", x}, {op, x, y}
        int mend = -1;

        int person(String name) {
            for (int i = 0; i < people.size(); i++) {
                if (people.get(i).name.equals(name)) {
                    return i;
                }
            }
            return -1;
        }

        int oath(String name) {
            for (int i = 0; i < oaths.size(); i++) {
                if (oaths.get(i).name.equals(name)) {
                    return i;
                }
            }
            return -1;
        }

        int stone(String name) {
            for (int i = 0; i < stones.size(); i++) {
                if (stones.get(i).name.equals(name)) {
                    return i;
                }
            }
            return -1;
        }
    }

    static final class State {
        int year;
        Set<Integer> broken = new HashSet<>();
        Set<Integer> forgiven = new HashSet<>();
        Set<Integer> up = new HashSet<>();

        State copy() {
            State s = new State();
            s.year = year;
            s.broken.addAll(broken);
            s.forgiven.addAll(forgiven);
            s.up.addAll(up);
            return s;
        }
    }

    static final class Mark {
        State state;
        List<String[]> life;
        List<int[]> heard;
    }

    private StringBuilder tape = new StringBuilder();
    private City city = new City();
    private State state = new State();
    private List<String[]> life = new ArrayList<>();
    private List<int[]> heard = new ArrayList<>();
    private final ArrayDeque<State> undo = new ArrayDeque<>();
    private final Mark[] marks = new Mark[4];
    private final Map<Integer, Integer> ifs = new HashMap<>();

    // ---- the tape and its tokens

    int feed(long a, long b, long c) {
        for (long eight : new long[] {a, b, c}) {
            for (int i = 7; i >= 0; i--) {
                int sign = (int) (eight >>> 8 * i & 0xff);
                if ((sign == 10 || sign >= 32 && sign < 127) && tape.length() < 1000) {
                    tape.append((char) sign);
                }
            }
        }
        return tape.length();
    }

    private List<Token> tokens;
    private int at;

    private static List<Token> split(String text) {
        List<Token> all = new ArrayList<>();
        int i = 0;
        while (i < text.length()) {
            char sign = text.charAt(i);
            int j = i + 1;
            if (sign == ' ' || sign == '\n') {
                i++;
                continue;
            }
            if (Character.isLowerCase(sign)) {
                while (j < text.length() && Character.isLowerCase(text.charAt(j))) {
                    j++;
                }
                all.add(new Token(j - i > 8 ? 'x' : 'w', text.substring(i, j), i));
            } else if (Character.isDigit(sign)) {
                while (j < text.length() && Character.isDigit(text.charAt(j))) {
                    j++;
                }
                all.add(new Token(j - i > 4 ? 'x' : 'n', text.substring(i, j), i));
            } else {
                all.add(new Token("()<=+-*;".indexOf(sign) >= 0 ? 's' : 'x', "" + sign, i));
            }
            i = j;
        }
        all.add(new Token('e', "", text.length()));
        return all;
    }

    private Token peek() {
        return tokens.get(at);
    }

    private Token take() {
        return tokens.get(at++);
    }

    private Fault fault(int kind) {
        return new Fault(kind, peek().place);
    }

    private boolean sees(String text) {
        return (peek().sort == 'w' || peek().sort == 's') && peek().text.equals(text);
    }

    private void expect(String text) {
        if (!sees(text)) {
            throw fault(1);
        }
        at++;
    }

    private String name() {
        if (!peek().isName()) {
            throw fault(1);
        }
        return peek().text;
    }

    private int number(int low, int high) {
        if (peek().sort != 'n') {
            throw fault(1);
        }
        int value = Integer.parseInt(peek().text);
        if (value < low || value > high) {
            throw fault(4);
        }
        at++;
        return value;
    }

    private String newName(City c) {
        String name = name();
        if (c.person(name) >= 0 || c.oath(name) >= 0 || c.stone(name) >= 0) {
            throw fault(3);
        }
        at++;
        return name;
    }

    private int knownOath(City c) {
        int oath = c.oath(name());
        if (oath < 0) {
            throw fault(2);
        }
        return oath;
    }

    // ---- the city

    int city() {
        City c = new City();
        tokens = split(tape.toString());
        at = 0;
        tape.setLength(0);
        try {
            while (peek().sort != 'e') {
                cityLine(c);
            }
        } catch (Fault f) {
            return f.code;
        }
        city = c;
        state = beginning();
        life = new ArrayList<>();
        heard = new ArrayList<>();
        undo.clear();
        Arrays.fill(marks, null);
        ifs.clear();
        return 0;
    }

    private void cityLine(City c) {
        String word = peek().sort == 'w' ? peek().text : "";
        switch (word) {
            case "person" -> {
                if (c.people.size() == 6) {
                    throw fault(5);
                }
                at++;
                Person p = new Person();
                p.name = newName(c);
                expect("faith");
                p.faith = number(0, 10);
                expect("tempt");
                p.tempt = number(0, 99);
                c.people.add(p);
            }
            case "oath" -> {
                if (c.oaths.size() == 10) {
                    throw fault(5);
                }
                at++;
                Oath o = new Oath();
                o.name = newName(c);
                o.kind = peek().sort == 'w' ? Arrays.asList("plain", "old", "sure", "widow").indexOf(peek().text) : -1;
                if (o.kind < 0) {
                    throw fault(1);
                }
                at++;
                expect("by");
                o.who = c.person(name());
                if (o.who < 0) {
                    throw fault(2);
                }
                at++;
                expect("bears");
                o.bears = number(1, 99);
                c.oaths.add(o);
            }
            case "lean" -> {
                at++;
                int a = knownOath(c);
                if (c.oaths.get(a).lean >= 0) {
                    throw fault(3);
                }
                at++;
                int b = knownOath(c);
                if (b == a || c.oaths.get(b).lean >= 0) {
                    throw fault(3);
                }
                at++;
                c.oaths.get(a).lean = b;
                c.oaths.get(b).lean = a;
            }
            case "clash" -> {
                at++;
                int a = knownOath(c);
                at++;
                int b = knownOath(c);
                if (b == a || c.oaths.get(a).clash.contains(b)) {
                    throw fault(3);
                }
                at++;
                c.oaths.get(a).clash.add(b);
                c.oaths.get(b).clash.add(a);
            }
            case "stone" -> stoneLine(c);
            case "age" -> {
                if (c.age != null) {
                    throw fault(3);
                }
                at++;
                c.age = expression(0);
            }
            case "mend" -> {
                if (c.mend >= 0) {
                    throw fault(3);
                }
                at++;
                c.mend = number(0, 10);
            }
            default -> throw fault(1);
        }
        expect(";");
    }

    private void stoneLine(City c) {
        if (c.stones.size() == 10) {
            throw fault(5);
        }
        at++;
        Stone s = new Stone();
        s.name = newName(c);
        expect("weighs");
        s.weight = number(0, 99);
        expect("rent");
        s.rent = number(0, 99);
        if (sees("on")) {
            at++;
            do {
                String on = name();
                int oath = c.oath(on);
                int stone = c.stone(on);
                if (oath < 0 && stone < 0) {
                    throw fault(2);
                }
                if (oath >= 0 ? !s.oaths.add(oath) : !s.stones.add(stone)) {
                    throw fault(3);
                }
                at++;
            } while (!sees(";"));
        }
        c.stones.add(s);
    }

    // ---- the law of ageing

    private Object[] expression(int depth) {
        Object[] left = test(depth);
        while (sees("and") || sees("or")) {
            left = new Object[] {take().text, left, test(depth)};
        }
        return left;
    }

    private Object[] test(int depth) {
        Object[] left = sum(depth);
        if (sees("<") || sees("=")) {
            left = new Object[] {take().text, left, sum(depth)};
        }
        return left;
    }

    private Object[] sum(int depth) {
        Object[] left = product(depth);
        while (sees("+") || sees("-")) {
            left = new Object[] {take().text, left, product(depth)};
        }
        return left;
    }

    private Object[] product(int depth) {
        Object[] left = part(depth);
        while (sees("*")) {
            left = new Object[] {take().text, left, part(depth)};
        }
        return left;
    }

    private Object[] part(int depth) {
        Token t = peek();
        boolean fact = t.sort == 'w' && Arrays.asList("base", "years", "kind", "alone").contains(t.text);
        if (t.sort != 'n' && !fact && !sees("not") && !sees("(")) {
            throw fault(1);
        }
        if (depth >= 5) {
            throw fault(5);
        }
        at++;
        if (t.sort == 'n') {
            return new Object[] {"number", Integer.parseInt(t.text)};
        }
        if (fact) {
            return new Object[] {"fact", t.text};
        }
        if (t.text.equals("not")) {
            return new Object[] {"not", part(depth + 1)};
        }
        Object[] inner = expression(depth + 1);
        expect(")");
        return inner;
    }

    private int value(Object[] e, Oath o, int year, boolean alone) {
        switch ((String) e[0]) {
            case "number":
                return (Integer) e[1];
            case "fact":
                return e[1].equals("base") ? o.bears : e[1].equals("years") ? year
                        : e[1].equals("kind") ? o.kind : alone ? 1 : 0;
            case "not":
                return value((Object[]) e[1], o, year, alone) != 0 ? 0 : 1;
            default:
                break;
        }
        int a = value((Object[]) e[1], o, year, alone);
        int b = value((Object[]) e[2], o, year, alone);
        return switch ((String) e[0]) {
            case "and" -> a != 0 && b != 0 ? 1 : 0;
            case "or" -> a != 0 || b != 0 ? 1 : 0;
            case "<" -> a < b ? 1 : 0;
            case "=" -> a == b ? 1 : 0;
            case "+" -> a + b;
            case "-" -> a - b;
            default -> a * b;
        };
    }

    // ---- the life

    int life() {
        List<String[]> lines = new ArrayList<>();
        tokens = split(tape.toString());
        at = 0;
        tape.setLength(0);
        try {
            while (peek().sort != 'e') {
                String word = peek().sort == 'w' ? peek().text : "";
                if (!Arrays.asList("break", "forgive", "raise", "year").contains(word)) {
                    throw fault(1);
                }
                if (lines.size() == 40) {
                    throw fault(5);
                }
                at++;
                String on = "";
                if (!word.equals("year")) {
                    on = name();
                    if ((word.equals("raise") ? city.stone(on) : city.oath(on)) < 0) {
                        throw fault(2);
                    }
                    at++;
                }
                lines.add(new String[] {word, on});
                expect(";");
            }
        } catch (Fault f) {
            return f.code;
        }
        life = lines;
        return 0;
    }

    // ---- strength, standing, falling

    private int strength(State s, int oath) {
        Oath o = city.oaths.get(oath);
        if (s.broken.contains(oath)) {
            return 0;
        }
        boolean alone = true;
        for (int i = 0; i < city.oaths.size(); i++) {
            if (i != oath && city.oaths.get(i).who == o.who && !s.broken.contains(i)) {
                alone = false;
            }
        }
        int v;
        if (city.age != null) {
            v = value(city.age, o, s.year, alone);
        } else {
            v = o.kind == 1 ? o.bears + s.year : o.kind == 3 && alone ? 2 * o.bears : o.bears;
        }
        v = Math.max(0, Math.min(999, v));
        if (s.forgiven.contains(oath)) {
            v = v * (city.mend < 0 ? 5 : city.mend) / 10;
        }
        if (o.lean >= 0) {
            v = s.broken.contains(o.lean) ? 0 : v + 5;
        }
        return v;
    }

    private int restsOn(int stone, Set<Integer> up) {
        int bits = 0;
        for (int o : city.stones.get(stone).oaths) {
            bits |= 1 << o;
        }
        for (int t : city.stones.get(stone).stones) {
            if (up.contains(t)) {
                bits |= restsOn(t, up);
            }
        }
        return bits;
    }

    /** By Hall: what any of them weigh together is no more than all the oaths below them bear. */
    private int slack(State s, Set<Integer> up, int newWeight, int newOaths) {
        List<int[]> all = new ArrayList<>();
        for (int stone : up) {
            all.add(new int[] {city.stones.get(stone).weight, restsOn(stone, up)});
        }
        if (newWeight >= 0) {
            all.add(new int[] {newWeight, newOaths});
        }
        int[] strong = new int[city.oaths.size()];
        for (int o = 0; o < strong.length; o++) {
            strong[o] = strength(s, o);
        }
        int least = 0;
        for (int some = 0; some < 1 << all.size(); some++) {
            int weight = 0;
            int below = 0;
            for (int i = 0; i < all.size(); i++) {
                if ((some >> i & 1) != 0) {
                    weight += all.get(i)[0];
                    below |= all.get(i)[1];
                }
            }
            int borne = 0;
            for (int o = 0; o < strong.length; o++) {
                borne += (below >> o & 1) != 0 ? strong[o] : 0;
            }
            least = Math.min(least, borne - weight);
        }
        return least;
    }

    private boolean stand(State s, Set<Integer> up) {
        return slack(s, up, -1, 0) >= 0;
    }

    private int fall(State s) {
        int bits = 0;
        while (!stand(s, s.up)) {
            int last = -1;
            for (int stone : s.up) {
                last = Math.max(last, stone);
            }
            s.up.remove(last);
            bits |= 1 << last;
        }
        return bits;
    }

    private State beginning() {
        State s = new State();
        for (int i = 0; i < city.stones.size(); i++) {
            s.up.add(i);
        }
        fall(s);
        return s;
    }

    private static int bits(Set<Integer> some) {
        int bits = 0;
        for (int i : some) {
            bits |= 1 << i;
        }
        return bits;
    }

    private boolean isOath(int o) {
        return o >= 0 && o < city.oaths.size();
    }

    private boolean isStone(int s) {
        return s >= 0 && s < city.stones.size();
    }

    private boolean canBreak(State s, int o) {
        return isOath(o) && !s.broken.contains(o) && city.oaths.get(o).kind != 2;
    }

    /** Bits of what falls, or -1 if it can't be. */
    private int doBreak(State s, int o) {
        if (!canBreak(s, o)) {
            return -1;
        }
        s.broken.add(o);
        return fall(s);
    }

    private int doForgive(State s, int o) {
        if (!isOath(o) || !s.broken.contains(o)) {
            return -1;
        }
        s.broken.remove(o);
        s.forgiven.add(o);
        return fall(s);
    }

    private int doRaise(State s, int stone) {
        if (!isStone(stone) || s.up.contains(stone)) {
            return -1;
        }
        s.up.add(stone);
        if (!stand(s, s.up)) {
            s.up.remove(stone);
            return -1;
        }
        return fall(s);
    }

    private int doYear(State s) {
        s.year++;
        return fall(s);
    }

    private void raiseAll(State s) {
        for (int i = 0; i < city.stones.size(); i++) {
            doRaise(s, i);
        }
    }

    // ---- what is told of each

    int person(int person, int what) {
        if (person < 0 || person >= city.people.size() || what < 0 || what > 3) {
            return -1;
        }
        if (what < 2) {
            return what == 0 ? city.people.get(person).faith : city.people.get(person).tempt;
        }
        int bits = 0;
        for (int o = 0; o < city.oaths.size(); o++) {
            if (city.oaths.get(o).who == person && (what == 2 || !state.broken.contains(o))) {
                bits |= 1 << o;
            }
        }
        return bits;
    }

    int oath(int oath, int what) {
        if (!isOath(oath)) {
            return -1;
        }
        Oath o = city.oaths.get(oath);
        return switch (what) {
            case 0 -> o.kind;
            case 1 -> o.who;
            case 2 -> o.bears;
            case 3 -> strength(state, oath);
            case 4 -> state.broken.contains(oath) ? 1 : 0;
            case 5 -> state.forgiven.contains(oath) ? 1 : 0;
            case 6 -> o.lean;
            case 7 -> bits(o.clash);
            default -> -1;
        };
    }

    int stone(int stone, int what) {
        if (!isStone(stone)) {
            return -1;
        }
        Stone s = city.stones.get(stone);
        return switch (what) {
            case 0 -> s.weight;
            case 1 -> s.rent;
            case 2 -> state.up.contains(stone) ? 1 : 0;
            case 3 -> restsOn(stone, state.up);
            case 4 -> bits(s.stones);
            default -> -1;
        };
    }

    // ---- by hand

    private void done(State was) {
        undo.addLast(was);
        if (undo.size() > 16) {
            undo.removeFirst();
        }
        ifs.clear();
    }

    int breaks(int oath) {
        State was = state.copy();
        int fell = doBreak(state, oath);
        if (fell >= 0) {
            done(was);
        }
        return fell;
    }

    boolean forgive(int oath) {
        State was = state.copy();
        boolean can = doForgive(state, oath) >= 0;
        if (can) {
            done(was);
        }
        return can;
    }

    boolean raise(int stone) {
        State was = state.copy();
        boolean can = doRaise(state, stone) >= 0;
        if (can) {
            done(was);
        }
        return can;
    }

    int years(int many) {
        if (many < 1 || many > 100) {
            return -1;
        }
        State was = state.copy();
        int fell = 0;
        for (int i = 0; i < many; i++) {
            fell |= doYear(state);
        }
        done(was);
        return fell;
    }

    boolean undo() {
        if (undo.isEmpty()) {
            return false;
        }
        state = undo.removeLast();
        ifs.clear();
        return true;
    }

    int judged(int what) {
        if (what < 0 || what > 2) {
            return -2;
        }
        State s = beginning();
        int refused = -1;
        int fell = -1;
        for (int i = 0; i < life.size(); i++) {
            String[] line = life.get(i);
            int r = switch (line[0]) {
                case "break" -> doBreak(s, city.oath(line[1]));
                case "forgive" -> doForgive(s, city.oath(line[1]));
                case "raise" -> doRaise(s, city.stone(line[1]));
                default -> doYear(s);
            };
            if (r < 0 && refused < 0) {
                refused = i;
            }
            if (r > 0 && fell < 0) {
                fell = i;
            }
        }
        return what == 0 ? refused : what == 1 ? fell : bits(s.up);
    }

    int bears() {
        return count(6) + slack(state, state.up, -1, 0);
    }

    // ---- what if

    private State broken(int set) {
        State s = state.copy();
        for (int o = 0; o < city.oaths.size(); o++) {
            if ((set >> o & 1) != 0 && city.oaths.get(o).kind != 2) {
                s.broken.add(o);
            }
        }
        return s;
    }

    private int upIf(int set) {
        Integer known = ifs.get(set);
        if (known == null) {
            State s = broken(set);
            fall(s);
            known = bits(s.up);
            ifs.put(set, known);
        }
        return known;
    }

    int stands(int set) {
        return set < 0 || set >= 1 << city.oaths.size() ? -1 : upIf(set);
    }

    private int keptSet(boolean withSure) {
        int bits = 0;
        for (int o = 0; o < city.oaths.size(); o++) {
            if (!state.broken.contains(o) && (withSure || city.oaths.get(o).kind != 2)) {
                bits |= 1 << o;
            }
        }
        return bits;
    }

    int weakest(int stone) {
        if (!isStone(stone) || !state.up.contains(stone)) {
            return -1;
        }
        int best = -1;
        for (int set = 0; set < 1 << city.oaths.size(); set++) {
            if ((set & ~keptSet(true)) == 0 && (best < 0 || Integer.bitCount(set) < Integer.bitCount(best))
                    && (upIf(set) >> stone & 1) == 0) {
                best = set;
            }
        }
        return best;
    }

    private int setOf(int choices) {
        int set = 0;
        for (int o = 0; o < city.oaths.size(); o++) {
            if ((choices >> city.oaths.get(o).who & 1) != 0) {
                set |= 1 << o;
            }
        }
        return set;
    }

    private BigInteger chance(int choices) {
        BigInteger c = BigInteger.ONE;
        for (int p = 0; p < city.people.size(); p++) {
            int faith = city.people.get(p).faith;
            c = c.multiply(BigInteger.valueOf((choices >> p & 1) != 0 ? 10 - faith : faith));
        }
        return c;
    }

    private int millionths(BigInteger sum) {
        BigInteger[] parts = sum.multiply(BigInteger.valueOf(1000000)).divideAndRemainder(BigInteger.TEN.pow(city.people.size()));
        if (parts[1].signum() != 0) {
            throw new IllegalStateException("not exact");
        }
        return parts[0].intValueExact();
    }

    int sure(int stone) {
        if (!isStone(stone) || !state.up.contains(stone)) {
            return -1;
        }
        BigInteger sum = BigInteger.ZERO;
        for (int choices = 0; choices < 1 << city.people.size(); choices++) {
            if ((upIf(setOf(choices)) >> stone & 1) != 0) {
                sum = sum.add(chance(choices));
            }
        }
        return millionths(sum);
    }

    int surest(int weight, int what) {
        if (weight < 0 || weight > 99 || what < 0 || what > 1) {
            return -1;
        }
        int best = -1;
        int bestSet = -1;
        for (int set = 1; set < 1 << city.oaths.size(); set++) {
            if (Integer.bitCount(set) > 2 || slack(state, state.up, weight, set) < 0) {
                continue;
            }
            BigInteger sum = BigInteger.ZERO;
            for (int choices = 0; choices < 1 << city.people.size(); choices++) {
                if (slack(broken(setOf(choices)), state.up, weight, set) >= 0) {
                    sum = sum.add(chance(choices));
                }
            }
            if (millionths(sum) > best) {
                best = millionths(sum);
                bestSet = set;
            }
        }
        return what == 0 ? best : bestSet;
    }

    int keep() {
        int best = -1;
        for (int set = 0; set < 1 << city.oaths.size(); set++) {
            if ((set & ~keptSet(false)) != 0 || best >= 0 && Integer.bitCount(set) >= Integer.bitCount(best)) {
                continue;
            }
            boolean good = true;
            for (int a = 0; a < city.oaths.size(); a++) {
                for (int b : city.oaths.get(a).clash) {
                    good &= state.broken.contains(a) || state.broken.contains(b)
                            || (set >> a & 1) != 0 || (set >> b & 1) != 0;
                }
            }
            if (good && upIf(set) == bits(state.up)) {
                best = set;
            }
        }
        return best;
    }

    private int bestWeight;
    private List<Integer> bestRow;

    private void rows(State s, int many, List<Integer> row) {
        if (row.size() == many) {
            int weight = 0;
            for (int stone : s.up) {
                weight += city.stones.get(stone).weight;
            }
            if (weight > bestWeight) {
                bestWeight = weight;
                bestRow = new ArrayList<>(row);
            }
            return;
        }
        for (int o = 0; o < city.oaths.size(); o++) {
            if (s.broken.contains(o)) {
                State next = s.copy();
                doForgive(next, o);
                raiseAll(next);
                doYear(next);
                row.add(o);
                rows(next, many, row);
                row.remove(row.size() - 1);
            }
        }
    }

    int repair(int many, int what) {
        if (many < 1 || many > 3 || what < 0 || what > many || state.broken.size() < many) {
            return -1;
        }
        bestWeight = -1;
        rows(state, many, new ArrayList<>());
        return what == 0 ? bestWeight : bestRow.get(what - 1);
    }

    boolean hear(int stone, boolean up) {
        if (!isStone(stone) || heard.size() == 10) {
            return false;
        }
        heard.add(new int[] {stone, up ? 1 : 0});
        return true;
    }

    int broken(int most, int what) {
        if (most < 0 || most > 10 || what < 0 || what > 3) {
            return -1;
        }
        List<Integer> sets = new ArrayList<>();
        for (int set = 0; set < 1 << city.oaths.size(); set++) {
            if ((set & ~keptSet(false)) != 0 || Integer.bitCount(set) > most) {
                continue;
            }
            boolean good = true;
            for (int[] h : heard) {
                good &= (upIf(set) >> h[0] & 1) == h[1];
            }
            if (good) {
                sets.add(set);
            }
        }
        if (sets.isEmpty()) {
            return -1;
        }
        int all = 1023;
        int some = 0;
        for (int set : sets) {
            all &= set;
            some |= set;
        }
        if (what < 3) {
            return what == 0 ? sets.size() : what == 1 ? all : some;
        }
        int best = -1;
        int most2 = 0;
        for (int s = 0; s < city.stones.size(); s++) {
            int up = 0;
            for (int set : sets) {
                up += upIf(set) >> s & 1;
            }
            if (Math.min(up, sets.size() - up) > most2) {
                most2 = Math.min(up, sets.size() - up);
                best = s;
            }
        }
        return best;
    }

    private int has(int person, int choices) {
        int gain = (choices >> person & 1) != 0 ? city.people.get(person).tempt : 0;
        State s = broken(setOf(choices));
        s.up.clear();
        int up = upIf(setOf(choices));
        for (int i = 0; i < city.stones.size(); i++) {
            if ((up >> i & 1) != 0) {
                s.up.add(i);
            }
        }
        for (int stone : s.up) {
            boolean his = false;
            for (int o = 0; o < city.oaths.size(); o++) {
                his |= (restsOn(stone, s.up) >> o & 1) != 0 && city.oaths.get(o).who == person && !s.broken.contains(o);
            }
            gain += his ? city.stones.get(stone).rent : 0;
        }
        return gain;
    }

    int rests(int what) {
        List<Integer> all = new ArrayList<>();
        for (int choices = 0; choices < 1 << city.people.size(); choices++) {
            boolean rest = true;
            for (int p = 0; p < city.people.size(); p++) {
                rest &= has(p, choices ^ 1 << p) <= has(p, choices);
            }
            if (rest) {
                all.add(choices);
            }
        }
        return what == -1 ? all.size() : what >= 0 && what < all.size() ? all.get(what) : -1;
    }

    int gains(int person, int choices) {
        if (person < 0 || person >= city.people.size() || choices < 0 || choices >= 1 << city.people.size()) {
            throw new NoSuchElementException();
        }
        return has(person, choices);
    }

    int centuries(int seed, int years, int what) {
        if (seed < 0 || seed > 9999 || years < 1 || years > 100 || what < 0 || what > 2) {
            return -1;
        }
        State s = state.copy();
        long g = seed;
        int broke = 0;
        int fell = 0;
        for (int y = 0; y < years; y++) {
            for (int p = 0; p < city.people.size(); p++) {
                g = (g * 1103515245L + 12345L) % 2147483648L;
                long d = g / 65536 % 10;
                int faith = city.people.get(p).faith;
                for (int o = 0; o < city.oaths.size(); o++) {
                    if (city.oaths.get(o).who != p) {
                        continue;
                    }
                    if (d >= faith && canBreak(s, o)) {
                        fell += Integer.bitCount(doBreak(s, o));
                        broke++;
                        break;
                    }
                    if (d < faith && d == 0 && s.broken.contains(o)) {
                        fell += Integer.bitCount(doForgive(s, o));
                        break;
                    }
                }
            }
            fell += Integer.bitCount(doYear(s));
            raiseAll(s);
        }
        return what == 0 ? broke : what == 1 ? fell : bits(s.up);
    }

    boolean mark(int mark, boolean back) {
        if (mark < 0 || mark > 3 || back && marks[mark] == null) {
            return false;
        }
        if (back) {
            state = marks[mark].state.copy();
            life = marks[mark].life;
            heard = new ArrayList<>(marks[mark].heard);
            undo.clear();
            ifs.clear();
        } else {
            marks[mark] = new Mark();
            marks[mark].state = state.copy();
            marks[mark].life = life;
            marks[mark].heard = new ArrayList<>(heard);
        }
        return true;
    }

    int count(int what) {
        int leans = 0;
        int clashes = 0;
        for (Oath o : city.oaths) {
            leans += o.lean >= 0 ? 1 : 0;
            clashes += o.clash.size();
        }
        int weight = 0;
        for (int s : state.up) {
            weight += city.stones.get(s).weight;
        }
        int[] all = {city.people.size(), city.oaths.size(), city.stones.size(), state.year, state.broken.size(),
            state.up.size(), weight, life.size(), heard.size(), leans / 2, clashes / 2, undo.size(), tape.length()};
        return what < 0 || what >= all.length ? -1 : all[what];
    }
}
