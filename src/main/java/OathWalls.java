import java.util.NoSuchElementException;

/** A city whose buildings rest on what people promised: told, lived in, asked about. */
public final class OathWalls {
    public static final int NONE = -1;

    private static final int MOST_PEOPLE = 6;
    private static final int MOST_OATHS = 10;
    private static final int MOST_STONES = 10;
    private static final int MOST_LINES = 40;
    private static final int MOST_HEARD = 10;
    private static final int MOST_UNDONE = 16;
    private static final int MOST_APOLOGIES = 3;
    private static final int MARKS = 4;

    private static final int OLD = 1;
    private static final int SURE = 2;
    private static final int WIDOW = 3;

    private static final int DEED_BREAK = 0;
    private static final int DEED_FORGIVE = 1;
    private static final int DEED_RAISE = 2;
    private static final int DEED_YEAR = 3;

    private final Tape tape;
    private final Reader reader;
    private final Wall wall;
    private final Deeds deeds;
    private final WhatIf whatIf;
    private final Teller teller;
    private City town;
    private City draft;
    private final Moment now;
    private final Moment before;
    private final Told told;
    private final Told spare;
    private final Moment[] past;
    private int firstPast;
    private int undoable;
    private final Moment[] markMoments;
    private final Told[] markTold;
    private int laid;

    public OathWalls() {
        town = new City();
        draft = new City();
        told = new Told();
        spare = new Told();
        tape = new Tape();
        reader = new Reader(tape, draft, spare);
        wall = new Wall();
        deeds = new Deeds(wall);
        whatIf = new WhatIf(wall, town);
        teller = new Teller(deeds);
        now = new Moment();
        before = new Moment();
        past = new Moment[MOST_UNDONE];
        for (int i = 0; i < MOST_UNDONE; i++) {
            past[i] = new Moment();
        }
        markMoments = new Moment[MARKS];
        markTold = new Told[MARKS];
        for (int i = 0; i < MARKS; i++) {
            markMoments[i] = new Moment();
            markTold[i] = new Told();
        }
    }

    public int feed(long a, long b, long c) {
        tape.add(a);
        tape.add(b);
        tape.add(c);
        return tape.size;
    }

    public int city() {
        int fault = reader.readCity(draft);
        tape.clear();
        if (fault != 0) {
            return fault;
        }
        City old = town;
        town = draft;
        draft = old;
        told.clear();
        undoable = 0;
        laid = 0;
        whatIf.forget();
        deeds.begin(town, now);
        return 0;
    }

    public int life() {
        int fault = reader.readLife(town, spare);
        tape.clear();
        if (fault == 0) {
            told.copyLife(spare);
        }
        return fault;
    }

    public int person(int person, int what) {
        if (person < 0 || person >= town.people) {
            return NONE;
        }
        switch (what) {
            case 0:
                return town.faith[person];
            case 1:
                return town.tempt[person];
            case 2:
                return town.owned[person];
            case 3:
                return town.owned[person] & ~now.broken;
            default:
                return NONE;
        }
    }

    public int oath(int oath, int what) {
        if (!town.hasOath(oath)) {
            return NONE;
        }
        switch (what) {
            case 0:
                return town.kind[oath];
            case 1:
                return town.owner[oath];
            case 2:
                return town.base[oath];
            case 3:
                return town.strengthOf(oath, now);
            case 4:
                return now.broken >> oath & 1;
            case 5:
                return now.forgiven >> oath & 1;
            case 6:
                return town.lean[oath];
            case 7:
                return town.clash[oath];
            default:
                return NONE;
        }
    }

    public int stone(int stone, int what) {
        if (!town.hasStone(stone)) {
            return NONE;
        }
        switch (what) {
            case 0:
                return town.weight[stone];
            case 1:
                return town.rent[stone];
            case 2:
                return now.up >> stone & 1;
            case 3:
                wall.settle(town, now.up);
                return wall.rest[stone];
            case 4:
                return town.onStones[stone];
            default:
                return NONE;
        }
    }

    public int breaks(int oath) {
        before.copy(now);
        if (!deeds.crack(town, now, oath)) {
            return NONE;
        }
        remember();
        return before.up & ~now.up;
    }

    public boolean forgive(int oath) {
        before.copy(now);
        if (!deeds.pardon(town, now, oath)) {
            return false;
        }
        remember();
        return true;
    }

    public boolean raise(int stone) {
        before.copy(now);
        if (!deeds.lift(town, now, stone)) {
            return false;
        }
        remember();
        return true;
    }

    public int years(int many) {
        if (many < 1 || many > 100) {
            return NONE;
        }
        before.copy(now);
        for (int i = 0; i < many; i++) {
            deeds.pass(town, now);
        }
        remember();
        return before.up & ~now.up;
    }

    public boolean undo() {
        if (undoable <= 0) {
            return false;
        }
        undoable--;
        now.copy(past[(firstPast + undoable) % MOST_UNDONE]);
        return true;
    }

    public int judged(int what) {
        if (what < 0 || what > 2) {
            return -2;
        }
        teller.judge(town, told);
        if (what == 0) {
            return teller.firstRefused;
        }
        return what == 1 ? teller.firstFall : teller.upAtLast;
    }

    public int bears() {
        return wall.most(town, now);
    }

    public int stands(int broken) {
        if (broken < 0 || broken >= 1 << town.oaths) {
            return NONE;
        }
        whatIf.look(town, now);
        return whatIf.upIf(broken);
    }

    public int weakest(int stone) {
        if (!isUp(stone)) {
            return NONE;
        }
        whatIf.look(town, now);
        return whatIf.fewestAgainst(stone);
    }

    public int sure(int stone) {
        if (!isUp(stone)) {
            return NONE;
        }
        whatIf.look(town, now);
        return whatIf.chanceOf(stone);
    }

    public int surest(int weight, int what) {
        if (weight < 0 || weight > 99 || what < 0 || what > 1) {
            return NONE;
        }
        whatIf.look(town, now);
        whatIf.findSurest(weight);
        return what == 0 ? whatIf.bestChance : whatIf.bestSet;
    }

    public int keep() {
        whatIf.look(town, now);
        return whatIf.fewestToKeep();
    }

    public int repair(int many, int what) {
        if (many < 1 || many > MOST_APOLOGIES || what < 0 || what > many
                || Integer.bitCount(now.broken) < many) {
            return NONE;
        }
        teller.findRow(town, now, many);
        return what == 0 ? teller.bestWeight : teller.bestRow[what - 1];
    }

    public boolean hear(int stone, boolean up) {
        if (!town.hasStone(stone) || told.heard >= MOST_HEARD) {
            return false;
        }
        told.heard++;
        if (up) {
            told.heardUp |= 1 << stone;
        } else {
            told.heardDown |= 1 << stone;
        }
        return true;
    }

    public int broken(int most, int what) {
        if (most < 0 || most > 10 || what < 0 || what > 3) {
            return NONE;
        }
        whatIf.look(town, now);
        whatIf.findSets(told, most);
        if (whatIf.sets == 0) {
            return NONE;
        }
        switch (what) {
            case 0:
                return whatIf.sets;
            case 1:
                return whatIf.inAll;
            case 2:
                return whatIf.inSome;
            default:
                return whatIf.evenestStone();
        }
    }

    public int rests(int what) {
        if (what < NONE) {
            return NONE;
        }
        whatIf.look(town, now);
        whatIf.fillGains();
        int found = 0;
        for (int choices = 0; choices < 1 << town.people; choices++) {
            if (whatIf.isRest(choices)) {
                if (found == what) {
                    return choices;
                }
                found++;
            }
        }
        return what == NONE ? found : NONE;
    }

    public int gains(int person, int choices) throws NoSuchElementException {
        if (person < 0 || person >= town.people || choices < 0 || choices >= 1 << town.people) {
            throw new NoSuchElementException();
        }
        whatIf.look(town, now);
        whatIf.choose(choices);
        return whatIf.gainOf(person, choices);
    }

    public int centuries(int seed, int years, int what) {
        if (seed < 0 || seed > 9999 || years < 1 || years > 100 || what < 0 || what > 2) {
            return NONE;
        }
        teller.live(town, now, seed, years);
        if (what == 0) {
            return teller.cracked;
        }
        return what == 1 ? teller.fallen : teller.upAtLast;
    }

    public boolean mark(int mark, boolean back) {
        if (mark < 0 || mark >= MARKS) {
            return false;
        }
        if (!back) {
            markMoments[mark].copy(now);
            markTold[mark].copy(told);
            laid |= 1 << mark;
            return true;
        }
        if ((laid >> mark & 1) == 0) {
            return false;
        }
        now.copy(markMoments[mark]);
        told.copy(markTold[mark]);
        undoable = 0;
        return true;
    }

    public int count(int what) {
        switch (what) {
            case 0:
                return town.people;
            case 1:
                return town.oaths;
            case 2:
                return town.stones;
            case 3:
                return now.year;
            case 4:
                return Integer.bitCount(now.broken);
            case 5:
                return Integer.bitCount(now.up);
            case 6:
                return town.weightOf(now.up);
            case 7:
                return told.lines;
            case 8:
                return told.heard;
            case 9:
                return town.pairs();
            case 10:
                return town.clashes();
            case 11:
                return undoable;
            case 12:
                return tape.size;
            default:
                return NONE;
        }
    }

    private boolean isUp(int stone) {
        return town.hasStone(stone) && (now.up >> stone & 1) != 0;
    }

    /** The moment before a deed can be come back to; beyond sixteen the oldest one is lost. */
    private void remember() {
        if (undoable == MOST_UNDONE) {
            firstPast = (firstPast + 1) % MOST_UNDONE;
            undoable--;
        }
        past[(firstPast + undoable) % MOST_UNDONE].copy(before);
        undoable++;
    }

    /** The signs fed so far, and the tokens in them, one at a time. */
    private static final class Tape {
        static final int MOST = 1000;

        static final int END = 0;
        static final int NO_TOKEN = 1;
        static final int WORD = 2;
        static final int NUMBER = 3;
        static final int SIGN = 4;

        static final int LONGEST_WORD = 8;
        static final int LONGEST_NUMBER = 4;

        // The written words, in columns as wide as the longest word; their numbers follow.
        static final String WORDS = "person  faith   tempt   oath    by      bears   lean    clash   stone   weighs  rent    on      age     mend    break   forgive raise   year    plain   old     sure    widow   not     and     or      base    years   kind    alone   ";
        static final int PERSON = 0;
        static final int FAITH = 1;
        static final int TEMPT = 2;
        static final int OATH = 3;
        static final int BY = 4;
        static final int BEARS = 5;
        static final int LEAN = 6;
        static final int CLASH = 7;
        static final int STONE = 8;
        static final int WEIGHS = 9;
        static final int RENT = 10;
        static final int ON = 11;
        static final int AGE = 12;
        static final int MEND = 13;
        static final int BREAK = 14;
        static final int YEAR = 17;
        static final int PLAIN = 18;
        static final int WIDOW_WORD = 21;
        static final int NOT = 22;
        static final int AND = 23;
        static final int OR = 24;
        // From here on the facts: words of a law, and yet good as names.
        static final int BASE = 25;
        static final int WORD_COUNT = 29;

        final byte[] signs = new byte[MOST];
        final long[] written = new long[WORD_COUNT];
        int size;
        int at;
        int kind;
        int place;
        int value;
        int word;
        long name;

        Tape() {
            for (int i = 0; i < WORD_COUNT; i++) {
                long packed = 0;
                for (int j = 0; j < LONGEST_WORD; j++) {
                    char sign = WORDS.charAt(i * LONGEST_WORD + j);
                    if (sign != ' ') {
                        packed = packed * 32 + (sign - 'a' + 1);
                    }
                }
                written[i] = packed;
            }
        }

        void add(long eight) {
            for (int shift = 56; shift >= 0; shift -= 8) {
                int sign = (int) (eight >> shift) & 255;
                if ((sign == 10 || sign >= 32 && sign <= 126) && size < MOST) {
                    signs[size] = (byte) sign;
                    size++;
                }
            }
        }

        void clear() {
            size = 0;
            at = 0;
        }

        void start() {
            at = 0;
            next();
        }

        void next() {
            while (at < size && (signs[at] == ' ' || signs[at] == 10)) {
                at++;
            }
            place = at;
            word = NONE;
            if (at >= size) {
                kind = END;
            } else if (isLetter(signs[at])) {
                readWord();
            } else if (isDigit(signs[at])) {
                readNumber();
            } else {
                value = signs[at];
                kind = isSignOfLanguage(value) ? SIGN : NO_TOKEN;
                at++;
            }
        }

        boolean isWord(int number) {
            return kind == WORD && word == number;
        }

        boolean isSign(char sign) {
            return kind == SIGN && value == sign;
        }

        boolean isName() {
            return kind == WORD && (word == NONE || word >= BASE);
        }

        private void readWord() {
            name = 0;
            while (at < size && isLetter(signs[at])) {
                name = name * 32 + (signs[at] - 'a' + 1);
                at++;
            }
            if (at - place > LONGEST_WORD) {
                kind = NO_TOKEN;
                return;
            }
            kind = WORD;
            for (int i = 0; i < WORD_COUNT; i++) {
                if (written[i] == name) {
                    word = i;
                }
            }
        }

        private void readNumber() {
            value = 0;
            while (at < size && isDigit(signs[at])) {
                value = value * 10 + (signs[at] - '0');
                at++;
            }
            kind = at - place > LONGEST_NUMBER ? NO_TOKEN : NUMBER;
        }

        private static boolean isLetter(int sign) {
            return sign >= 'a' && sign <= 'z';
        }

        private static boolean isDigit(int sign) {
            return sign >= '0' && sign <= '9';
        }

        private static boolean isSignOfLanguage(int sign) {
            return sign == '(' || sign == ')' || sign == '<' || sign == '=' || sign == '+'
                    || sign == '-' || sign == '*' || sign == ';';
        }
    }

    /** Reads the tape as a city or as a life; at the first wrong token it stops with a fault. */
    private static final class Reader {
        static final int CANT_STAND = 1;
        static final int UNKNOWN = 2;
        static final int AGAIN = 3;
        static final int OUT_OF_RANGE = 4;
        static final int TOO_MANY = 5;

        private final Tape tape;
        private final LawReader lawReader;
        private City city;
        private Told life;
        private int fault;
        private int number;
        private int found;

        Reader(Tape tape, City city, Told life) {
            this.tape = tape;
            this.city = city;
            this.life = life;
            this.lawReader = new LawReader(tape, city.law);
        }

        int readCity(City into) {
            city = into;
            city.clear();
            fault = 0;
            tape.start();
            for (int i = 0; i <= Tape.MOST && tape.kind != Tape.END; i++) {
                if (!readCityLine()) {
                    return fault;
                }
            }
            return 0;
        }

        int readLife(City of, Told into) {
            city = of;
            life = into;
            life.clear();
            fault = 0;
            tape.start();
            for (int i = 0; i <= Tape.MOST && tape.kind != Tape.END; i++) {
                if (!readLifeLine()) {
                    return fault;
                }
            }
            return 0;
        }

        private boolean readCityLine() {
            switch (tape.word) {
                case Tape.PERSON:
                    return readPerson();
                case Tape.OATH:
                    return readOath();
                case Tape.LEAN:
                    return readLean();
                case Tape.CLASH:
                    return readClash();
                case Tape.STONE:
                    return readStone();
                case Tape.AGE:
                    return readAge();
                case Tape.MEND:
                    return readMend();
                default:
                    return wrong(CANT_STAND);
            }
        }

        private boolean readPerson() {
            int person = city.people;
            if (person >= MOST_PEOPLE) {
                return wrong(TOO_MANY);
            }
            tape.next();
            long name = tape.name;
            if (!takeNewName() || !takeWord(Tape.FAITH) || !takeNumber(0, 10)) {
                return false;
            }
            city.faith[person] = number;
            if (!takeWord(Tape.TEMPT) || !takeNumber(0, 99) || !takeEnd()) {
                return false;
            }
            city.tempt[person] = number;
            city.personNames[person] = name;
            city.people++;
            return true;
        }

        private boolean readOath() {
            int oath = city.oaths;
            if (oath >= MOST_OATHS) {
                return wrong(TOO_MANY);
            }
            tape.next();
            long name = tape.name;
            if (!takeNewName()) {
                return false;
            }
            if (tape.word < Tape.PLAIN || tape.word > Tape.WIDOW_WORD) {
                return wrong(CANT_STAND);
            }
            int kind = tape.word - Tape.PLAIN;
            tape.next();
            if (!takeWord(Tape.BY) || !seeKnown(city.personNames, city.people)) {
                return false;
            }
            int owner = found;
            tape.next();
            if (!takeWord(Tape.BEARS) || !takeNumber(1, 99) || !takeEnd()) {
                return false;
            }
            city.addOath(name, kind, owner, number);
            return true;
        }

        private boolean readLean() {
            tape.next();
            if (!seeKnown(city.oathNames, city.oaths)) {
                return false;
            }
            int first = found;
            if (city.lean[first] != NONE) {
                return wrong(AGAIN);
            }
            tape.next();
            if (!seeKnown(city.oathNames, city.oaths)) {
                return false;
            }
            int second = found;
            if (second == first || city.lean[second] != NONE) {
                return wrong(AGAIN);
            }
            tape.next();
            city.lean[first] = second;
            city.lean[second] = first;
            return takeEnd();
        }

        private boolean readClash() {
            tape.next();
            if (!seeKnown(city.oathNames, city.oaths)) {
                return false;
            }
            int first = found;
            tape.next();
            if (!seeKnown(city.oathNames, city.oaths)) {
                return false;
            }
            int second = found;
            if (second == first || (city.clash[first] >> second & 1) != 0) {
                return wrong(AGAIN);
            }
            tape.next();
            city.clash[first] |= 1 << second;
            city.clash[second] |= 1 << first;
            return takeEnd();
        }

        private boolean readStone() {
            int stone = city.stones;
            if (stone >= MOST_STONES) {
                return wrong(TOO_MANY);
            }
            tape.next();
            long name = tape.name;
            if (!takeNewName() || !takeWord(Tape.WEIGHS) || !takeNumber(0, 99)) {
                return false;
            }
            city.weight[stone] = number;
            if (!takeWord(Tape.RENT) || !takeNumber(0, 99)) {
                return false;
            }
            city.rent[stone] = number;
            city.onOaths[stone] = 0;
            city.onStones[stone] = 0;
            if (tape.isWord(Tape.ON) && !readOn(stone)) {
                return false;
            }
            if (!takeEnd()) {
                return false;
            }
            city.stoneNames[stone] = name;
            city.stones++;
            return true;
        }

        private boolean readOn(int stone) {
            tape.next();
            boolean more = true;
            for (int i = 0; i <= Tape.MOST && more; i++) {
                if (!readSupport(stone)) {
                    return false;
                }
                tape.next();
                more = tape.isName();
            }
            return true;
        }

        private boolean readSupport(int stone) {
            if (!tape.isName()) {
                return wrong(CANT_STAND);
            }
            int oath = find(city.oathNames, city.oaths, tape.name);
            int below = find(city.stoneNames, city.stones, tape.name);
            if (oath == NONE && below == NONE) {
                return wrong(UNKNOWN);
            }
            int oaths = oath == NONE ? 0 : 1 << oath;
            int stones = below == NONE ? 0 : 1 << below;
            if ((city.onOaths[stone] & oaths) != 0 || (city.onStones[stone] & stones) != 0) {
                return wrong(AGAIN);
            }
            city.onOaths[stone] |= oaths;
            city.onStones[stone] |= stones;
            return true;
        }

        private boolean readAge() {
            if (city.law.isTold) {
                return wrong(AGAIN);
            }
            tape.next();
            int bad = lawReader.read(city.law);
            return bad == 0 ? takeEnd() : wrong(bad);
        }

        private boolean readMend() {
            if (city.law.isMendTold) {
                return wrong(AGAIN);
            }
            tape.next();
            if (!takeNumber(0, 10)) {
                return false;
            }
            city.law.mend = number;
            city.law.isMendTold = true;
            return takeEnd();
        }

        private boolean readLifeLine() {
            if (tape.word < Tape.BREAK || tape.word > Tape.YEAR) {
                return wrong(CANT_STAND);
            }
            if (life.lines >= MOST_LINES) {
                return wrong(TOO_MANY);
            }
            int deed = tape.word - Tape.BREAK;
            tape.next();
            found = 0;
            if (deed != DEED_YEAR) {
                boolean known = deed == DEED_RAISE
                        ? seeKnown(city.stoneNames, city.stones)
                        : seeKnown(city.oathNames, city.oaths);
                if (!known) {
                    return false;
                }
                tape.next();
            }
            life.addLine(deed, found);
            return takeEnd();
        }

        /** Stays on the name: what else can be wrong with it is wrong in its place. */
        private boolean seeKnown(long[] names, int size) {
            if (!tape.isName()) {
                return wrong(CANT_STAND);
            }
            found = find(names, size, tape.name);
            return found != NONE || wrong(UNKNOWN);
        }

        private boolean takeNewName() {
            if (!tape.isName()) {
                return wrong(CANT_STAND);
            }
            if (find(city.personNames, city.people, tape.name) != NONE
                    || find(city.oathNames, city.oaths, tape.name) != NONE
                    || find(city.stoneNames, city.stones, tape.name) != NONE) {
                return wrong(AGAIN);
            }
            tape.next();
            return true;
        }

        private boolean takeWord(int word) {
            if (!tape.isWord(word)) {
                return wrong(CANT_STAND);
            }
            tape.next();
            return true;
        }

        private boolean takeNumber(int least, int most) {
            if (tape.kind != Tape.NUMBER) {
                return wrong(CANT_STAND);
            }
            number = tape.value;
            if (number < least || number > most) {
                return wrong(OUT_OF_RANGE);
            }
            tape.next();
            return true;
        }

        private boolean takeEnd() {
            if (!tape.isSign(';')) {
                return wrong(CANT_STAND);
            }
            tape.next();
            return true;
        }

        private boolean wrong(int kind) {
            fault = kind + 16 * tape.place;
            return false;
        }

        private static int find(long[] names, int size, long name) {
            for (int i = 0; i < size && i < names.length; i++) {
                if (names[i] == name) {
                    return i;
                }
            }
            return NONE;
        }
    }

    /** Turns the E of age into a row of codes in which each joint stands behind its two parts. */
    private static final class LawReader {
        static final int DEEPEST = 5;

        private final Tape tape;
        // At each of five depths wait at most: or, a comparison, a sum, a product, a bracket.
        private final int[] waiting = new int[64];
        private int top;
        private int depth;
        private int open;
        private boolean partIsDue;
        private Law law;

        LawReader(Tape tape, Law law) {
            this.tape = tape;
            this.law = law;
        }

        /** 0, or the kind of the fault that the tape's token is. */
        int read(Law into) {
            law = into;
            law.renew();
            top = 0;
            depth = 0;
            open = 0;
            partIsDue = true;
            for (int i = 0; i <= Tape.MOST; i++) {
                if (!partIsDue && open == 0 && tape.isSign(';')) {
                    settle(1);
                    return 0;
                }
                int bad = partIsDue ? readPart() : readJoint();
                if (bad != 0) {
                    return bad;
                }
                tape.next();
            }
            return Reader.CANT_STAND;
        }

        private int readPart() {
            int code = partCode();
            if (code == Law.BAD) {
                return Reader.CANT_STAND;
            }
            if (depth >= DEEPEST) {
                return Reader.TOO_MANY;
            }
            if (code == Law.NOT || code == Law.OPEN) {
                push(code);
                depth++;
                open += code == Law.OPEN ? 1 : 0;
                return 0;
            }
            law.add(code);
            endPart();
            return 0;
        }

        private int readJoint() {
            if (tape.isSign(')')) {
                if (open == 0) {
                    return Reader.CANT_STAND;
                }
                settle(1);
                top--;
                depth--;
                open--;
                endPart();
                return 0;
            }
            int code = jointCode();
            if (code == Law.BAD) {
                return Reader.CANT_STAND;
            }
            int rank = rank(code);
            boolean compares = rank == rank(Law.LESS);
            settle(compares ? rank + 1 : rank);
            if (compares && top > 0 && rank(waiting[top - 1]) == rank) {
                return Reader.CANT_STAND;
            }
            push(code);
            partIsDue = true;
            return 0;
        }

        /** Each not right before a part ends with it. */
        private void endPart() {
            while (top > 0 && waiting[top - 1] == Law.NOT) {
                top--;
                depth--;
                law.add(Law.NOT);
            }
            partIsDue = false;
        }

        /** Joints that bind at least so closely, back to the last bracket, are told now. */
        private void settle(int leastRank) {
            while (top > 0 && rank(waiting[top - 1]) >= leastRank) {
                top--;
                law.add(waiting[top]);
            }
        }

        private void push(int code) {
            if (top < waiting.length) {
                waiting[top] = code;
                top++;
            }
        }

        private int partCode() {
            if (tape.kind == Tape.NUMBER) {
                return tape.value;
            }
            if (tape.isSign('(')) {
                return Law.OPEN;
            }
            if (tape.isWord(Tape.NOT)) {
                return Law.NOT;
            }
            boolean fact = tape.kind == Tape.WORD && tape.word >= Tape.BASE;
            return fact ? Law.BASE - (tape.word - Tape.BASE) : Law.BAD;
        }

        private int jointCode() {
            if (tape.isWord(Tape.AND)) {
                return Law.AND;
            }
            if (tape.isWord(Tape.OR)) {
                return Law.OR;
            }
            if (tape.kind != Tape.SIGN) {
                return Law.BAD;
            }
            switch (tape.value) {
                case '<':
                    return Law.LESS;
                case '=':
                    return Law.SAME;
                case '+':
                    return Law.PLUS;
                case '-':
                    return Law.MINUS;
                case '*':
                    return Law.TIMES;
                default:
                    return Law.BAD;
            }
        }

        private static int rank(int code) {
            switch (code) {
                case Law.AND:
                case Law.OR:
                    return 1;
                case Law.LESS:
                case Law.SAME:
                    return 2;
                case Law.PLUS:
                case Law.MINUS:
                    return 3;
                case Law.TIMES:
                    return 4;
                default:
                    return 0;
            }
        }
    }

    /** How much an oath bears as it ages, and once forgiven: as told, or what holds untold. */
    private static final class Law {
        // Numbers stand for themselves, all else is below 0.
        static final int BASE = -1;
        static final int YEARS = -2;
        static final int KIND = -3;
        static final int ALONE = -4;
        static final int NOT = -5;
        static final int AND = -6;
        static final int OR = -7;
        static final int LESS = -8;
        static final int SAME = -9;
        static final int PLUS = -10;
        static final int MINUS = -11;
        static final int TIMES = -12;
        static final int OPEN = -13;
        static final int BAD = -14;

        static final int MOST_STRENGTH = 999;
        static final int MEND_UNTOLD = 5;

        int mend = MEND_UNTOLD;
        boolean isMendTold;
        boolean isTold;
        private final int[] codes = new int[Tape.MOST];
        private int size;
        private final int[] stack = new int[64];
        // What an oath bears changes only with the year and with being alone: it is noted by these.
        final int[] noted = new int[2 * MOST_OATHS];
        final int[] notedYear = new int[2 * MOST_OATHS];

        void reset() {
            mend = MEND_UNTOLD;
            isMendTold = false;
            isTold = false;
            size = 0;
            for (int i = 0; i < notedYear.length; i++) {
                notedYear[i] = NONE;
            }
        }

        void renew() {
            isTold = true;
            size = 0;
        }

        void add(int code) {
            if (size < codes.length) {
                codes[size] = code;
                size++;
            }
        }

        /** Notes what an oath bears in a year, alone (1) or not (0). */
        void note(City city, int oath, int year, int alone) {
            int base = city.base[oath];
            int kind = city.kind[oath];
            int value = isTold ? 0 : plainWorth(base, year, kind, alone);
            int top = 0;
            for (int i = 0; i < size; i++) {
                int code = codes[i];
                if (code > NOT && top < stack.length) {
                    stack[top] = code >= 0 ? code
                            : code == BASE ? base
                            : code == YEARS ? year
                            : code == KIND ? kind : alone;
                    top++;
                } else if (code == NOT && top > 0) {
                    stack[top - 1] = stack[top - 1] == 0 ? 1 : 0;
                } else if (code < NOT && top > 1) {
                    top--;
                    stack[top - 1] = joined(code, stack[top - 1], stack[top]);
                }
            }
            value = top > 0 ? stack[0] : value;
            noted[2 * oath + alone] = value < 0 ? 0 : value > MOST_STRENGTH ? MOST_STRENGTH : value;
            notedYear[2 * oath + alone] = year;
        }

        private static int plainWorth(int base, int year, int kind, int alone) {
            if (kind == OLD) {
                return base + year;
            }
            return kind == WIDOW && alone != 0 ? 2 * base : base;
        }

        private static int joined(int code, int a, int b) {
            switch (code) {
                case AND:
                    return a != 0 && b != 0 ? 1 : 0;
                case OR:
                    return a != 0 || b != 0 ? 1 : 0;
                case LESS:
                    return a < b ? 1 : 0;
                case SAME:
                    return a == b ? 1 : 0;
                case PLUS:
                    return a + b;
                case MINUS:
                    return a - b;
                default:
                    return a * b;
            }
        }
    }

    /** A city as it was told: what never changes while it is the city. */
    private static final class City {
        int people;
        final long[] personNames = new long[MOST_PEOPLE];
        final int[] faith = new int[MOST_PEOPLE];
        final int[] tempt = new int[MOST_PEOPLE];
        final int[] owned = new int[MOST_PEOPLE];
        int oaths;
        final long[] oathNames = new long[MOST_OATHS];
        final int[] kind = new int[MOST_OATHS];
        final int[] owner = new int[MOST_OATHS];
        final int[] base = new int[MOST_OATHS];
        final int[] lean = new int[MOST_OATHS];
        final int[] clash = new int[MOST_OATHS];
        int sureOnes;
        int stones;
        final long[] stoneNames = new long[MOST_STONES];
        final int[] weight = new int[MOST_STONES];
        final int[] rent = new int[MOST_STONES];
        final int[] onOaths = new int[MOST_STONES];
        final int[] onStones = new int[MOST_STONES];
        final Law law = new Law();

        void clear() {
            people = 0;
            oaths = 0;
            stones = 0;
            sureOnes = 0;
            for (int i = 0; i < MOST_PEOPLE; i++) {
                owned[i] = 0;
            }
            law.reset();
        }

        void addOath(long name, int itsKind, int itsOwner, int itsBase) {
            if (oaths >= MOST_OATHS || itsOwner < 0 || itsOwner >= MOST_PEOPLE) {
                return;
            }
            oathNames[oaths] = name;
            kind[oaths] = itsKind;
            owner[oaths] = itsOwner;
            base[oaths] = itsBase;
            lean[oaths] = NONE;
            clash[oaths] = 0;
            owned[itsOwner] |= 1 << oaths;
            sureOnes |= itsKind == SURE ? 1 << oaths : 0;
            oaths++;
        }

        boolean hasOath(int oath) {
            return oath >= 0 && oath < oaths;
        }

        boolean hasStone(int stone) {
            return stone >= 0 && stone < stones;
        }

        int strengthOf(int oath, Moment moment) {
            if ((moment.broken >> oath & 1) != 0) {
                return 0;
            }
            int other = lean[oath];
            if (other != NONE && (moment.broken >> other & 1) != 0) {
                return 0;
            }
            int othersKept = owned[owner[oath]] & ~moment.broken & ~(1 << oath);
            int alone = othersKept == 0 ? 1 : 0;
            if (law.notedYear[2 * oath + alone] != moment.year) {
                law.note(this, oath, moment.year, alone);
            }
            int strength = law.noted[2 * oath + alone];
            if ((moment.forgiven >> oath & 1) != 0) {
                strength = strength * law.mend / 10;
            }
            return other == NONE ? strength : strength + 5;
        }

        int weightOf(int some) {
            int sum = 0;
            for (int s = 0; s < stones; s++) {
                sum += (some >> s & 1) != 0 ? weight[s] : 0;
            }
            return sum;
        }

        int pairs() {
            int sum = 0;
            for (int o = 0; o < oaths; o++) {
                sum += lean[o] > o ? 1 : 0;
            }
            return sum;
        }

        int clashes() {
            int sum = 0;
            for (int o = 0; o < oaths; o++) {
                sum += Integer.bitCount(clash[o] >> o);
            }
            return sum;
        }
    }

    /** What changes in a city: the year, and bits of what is broken, forgiven, up. */
    private static final class Moment {
        int year;
        int broken;
        int forgiven;
        int up;

        void copy(Moment other) {
            year = other.year;
            broken = other.broken;
            forgiven = other.forgiven;
            up = other.up;
        }

        boolean isLike(Moment other) {
            return year == other.year && broken == other.broken
                    && forgiven == other.forgiven && up == other.up;
        }
    }

    /** What was told of a city beside itself: its life, and what the mallet heard. */
    private static final class Told {
        int lines;
        final int[] deeds = new int[MOST_LINES];
        final int[] whom = new int[MOST_LINES];
        int heard;
        int heardUp;
        int heardDown;

        void clear() {
            lines = 0;
            heard = 0;
            heardUp = 0;
            heardDown = 0;
        }

        void addLine(int deed, int on) {
            if (lines < MOST_LINES) {
                deeds[lines] = deed;
                whom[lines] = on;
                lines++;
            }
        }

        void copyLife(Told other) {
            lines = other.lines;
            for (int i = 0; i < MOST_LINES; i++) {
                deeds[i] = other.deeds[i];
                whom[i] = other.whom[i];
            }
        }

        void copy(Told other) {
            copyLife(other);
            heard = other.heard;
            heardUp = other.heardUp;
            heardDown = other.heardDown;
        }

        boolean agrees(int up) {
            return (heardUp & ~up) == 0 && (heardDown & up) == 0;
        }
    }

    /** Lays what stones weigh on what oaths bear. */
    private static final class Wall {
        // One stone more than a city has: the new one that is only thought of.
        static final int STONES = MOST_STONES + 1;
        static final int NEW_STONE = MOST_STONES;

        final int[] rest = new int[STONES];
        private final int[] left = new int[MOST_OATHS];
        private final int[] load = new int[STONES * MOST_OATHS];
        private final int[] savedLeft = new int[MOST_OATHS];
        private final int[] savedLoad = new int[STONES * MOST_OATHS];
        private int laidStones;
        private int savedStones;
        private final int[] queue = new int[MOST_OATHS];
        private final int[] reachedBy = new int[MOST_OATHS];
        private final int[] relievedBy = new int[STONES];

        /** On which oaths each stone rests if those told are up (of one that is not: if it were). */
        void settle(City city, int up) {
            for (int s = 0; s < city.stones; s++) {
                int oaths = city.onOaths[s];
                int below = city.onStones[s] & up;
                for (int t = 0; t < s; t++) {
                    oaths |= (below >> t & 1) != 0 ? rest[t] : 0;
                }
                rest[s] = oaths;
            }
        }

        /**
         * Those that stay up behind the fall. The last told falls first, and nothing told before
         * it rests on it: so stones are laid as told, until one can't be borne.
         */
        int standing(City city, Moment moment, int up) {
            laidStones = 0;
            for (int o = 0; o < city.oaths; o++) {
                left[o] = city.strengthOf(o, moment);
            }
            settle(city, up);
            for (int s = 0; s < city.stones; s++) {
                if ((up >> s & 1) != 0 && lay(s, city.weight[s]) > 0) {
                    return up & ((1 << s) - 1);
                }
            }
            return up;
        }

        /** How much of what those up weigh can be borne. */
        int most(City city, Moment moment) {
            standing(city, moment, 0);
            settle(city, moment.up);
            int borne = 0;
            for (int s = 0; s < city.stones; s++) {
                if ((moment.up >> s & 1) != 0) {
                    borne += city.weight[s] - lay(s, city.weight[s]);
                }
            }
            return borne;
        }

        /** Keeps the stones as they are laid now, so that new ones can be tried on them. */
        void save() {
            savedStones = laidStones;
            System.arraycopy(left, 0, savedLeft, 0, left.length);
            System.arraycopy(load, 0, savedLoad, 0, load.length);
        }

        /** Can a new stone be laid on these oaths beside those that were saved? */
        boolean bearsNew(int oaths, int weight) {
            laidStones = savedStones;
            System.arraycopy(savedLeft, 0, left, 0, left.length);
            System.arraycopy(savedLoad, 0, load, 0, load.length);
            rest[NEW_STONE] = oaths;
            return lay(NEW_STONE, weight) == 0;
        }

        /** Answers how much of the stone can't be borne. */
        private int lay(int stone, int weight) {
            int need = weight;
            for (int o = 0; o < MOST_OATHS; o++) {
                int put = 0;
                if ((rest[stone] >> o & 1) != 0) {
                    put = need < left[o] ? need : left[o];
                    left[o] -= put;
                    need -= put;
                }
                load[stone * MOST_OATHS + o] = put;
            }
            laidStones |= 1 << stone;
            for (int i = 0; i < weight && need > 0; i++) {
                int more = makeRoom(stone, need);
                if (more == 0) {
                    return need;
                }
                need -= more;
            }
            return need;
        }

        /** Lets stones laid before move over to other oaths; answers how much more is borne so. */
        private int makeRoom(int stone, int need) {
            int tail = reach(stone, 0, 0);
            int seenOaths = rest[stone];
            int seenStones = 1 << stone;
            for (int head = 0; head < tail && head < MOST_OATHS; head++) {
                int oath = queue[head];
                if (left[oath] > 0) {
                    return moveOver(stone, oath, need);
                }
                for (int t = 0; t < STONES; t++) {
                    if ((laidStones & ~seenStones & 1 << t) != 0 && load[t * MOST_OATHS + oath] > 0) {
                        seenStones |= 1 << t;
                        relievedBy[t] = oath;
                        tail = reach(t, seenOaths, tail);
                        seenOaths |= rest[t];
                    }
                }
            }
            return 0;
        }

        /** Puts the oaths of a stone that were not seen yet behind the queue; answers its end. */
        private int reach(int stone, int seenOaths, int tail) {
            int end = tail;
            for (int o = 0; o < MOST_OATHS; o++) {
                if ((rest[stone] & ~seenOaths & 1 << o) != 0 && end < MOST_OATHS) {
                    queue[end] = o;
                    reachedBy[o] = stone;
                    end++;
                }
            }
            return end;
        }

        private int moveOver(int stone, int lastOath, int need) {
            int amount = need < left[lastOath] ? need : left[lastOath];
            int oath = lastOath;
            for (int i = 0; i < STONES && reachedBy[oath] != stone; i++) {
                int mover = reachedBy[oath];
                oath = relievedBy[mover];
                int there = load[mover * MOST_OATHS + oath];
                amount = there < amount ? there : amount;
            }
            left[lastOath] -= amount;
            oath = lastOath;
            for (int i = 0; i < STONES && reachedBy[oath] != stone; i++) {
                int mover = reachedBy[oath];
                load[mover * MOST_OATHS + oath] += amount;
                oath = relievedBy[mover];
                load[mover * MOST_OATHS + oath] -= amount;
            }
            load[stone * MOST_OATHS + oath] += amount;
            return amount;
        }
    }

    /** What can be done to a city, each with its fall. */
    private static final class Deeds {
        private final Wall wall;

        Deeds(Wall wall) {
            this.wall = wall;
        }

        void begin(City city, Moment moment) {
            moment.year = 0;
            moment.broken = 0;
            moment.forgiven = 0;
            moment.up = wall.standing(city, moment, (1 << city.stones) - 1);
        }

        boolean crack(City city, Moment moment, int oath) {
            if (!city.hasOath(oath) || ((moment.broken | city.sureOnes) >> oath & 1) != 0) {
                return false;
            }
            moment.broken |= 1 << oath;
            moment.up = wall.standing(city, moment, moment.up);
            return true;
        }

        boolean pardon(City city, Moment moment, int oath) {
            if (!city.hasOath(oath) || (moment.broken >> oath & 1) == 0) {
                return false;
            }
            moment.broken &= ~(1 << oath);
            moment.forgiven |= 1 << oath;
            moment.up = wall.standing(city, moment, moment.up);
            return true;
        }

        boolean lift(City city, Moment moment, int stone) {
            if (!city.hasStone(stone) || (moment.up >> stone & 1) != 0) {
                return false;
            }
            int raised = moment.up | 1 << stone;
            if (wall.standing(city, moment, raised) != raised) {
                return false;
            }
            moment.up = raised;
            return true;
        }

        void pass(City city, Moment moment) {
            moment.year++;
            moment.up = wall.standing(city, moment, moment.up);
        }

        boolean does(City city, Moment moment, int deed, int whom) {
            switch (deed) {
                case DEED_BREAK:
                    return crack(city, moment, whom);
                case DEED_FORGIVE:
                    return pardon(city, moment, whom);
                case DEED_RAISE:
                    return lift(city, moment, whom);
                default:
                    pass(city, moment);
                    return true;
            }
        }
    }

    /** Answers what would be if other oaths were broken, too. */
    private static final class WhatIf {
        static final int SETS = 1 << MOST_OATHS;
        static final int CHOICES = 1 << MOST_PEOPLE;

        private final Wall wall;
        private City city;
        private final Moment seen = new Moment();
        private final Moment thought = new Moment();
        // What was found for the moment seen: it is good while its stamp is the newest.
        private final int[] known = new int[SETS];
        private final int[] stamps = new int[SETS];
        private int stamp;
        private boolean fresh;
        private int breakable;

        private final int[] chances = new int[MOST_OATHS * MOST_OATHS];
        int bestChance;
        int bestSet;

        int sets;
        int inAll;
        int inSome;
        private final int[] setsUp = new int[MOST_STONES];

        private final int[] gainTable = new int[CHOICES * MOST_PEOPLE];
        private int chosenUp;
        private int chosenKept;

        WhatIf(Wall wall, City city) {
            this.wall = wall;
            this.city = city;
        }

        void forget() {
            fresh = false;
        }

        void look(City at, Moment now) {
            if (fresh && seen.isLike(now)) {
                return;
            }
            fresh = true;
            stamp++;
            city = at;
            seen.copy(now);
            breakable = (1 << city.oaths) - 1 & ~city.sureOnes & ~now.broken;
        }

        int upIf(int oaths) {
            int set = oaths & breakable;
            if (stamps[set] != stamp) {
                thought.copy(seen);
                thought.broken |= set;
                known[set] = wall.standing(city, thought, seen.up);
                stamps[set] = stamp;
            }
            return known[set];
        }

        int fewestAgainst(int stone) {
            for (int many = 1; many <= city.oaths; many++) {
                for (int set = 1; set < 1 << city.oaths; set++) {
                    if (canBreak(set) && Integer.bitCount(set) == many && (upIf(set) >> stone & 1) == 0) {
                        return set;
                    }
                }
            }
            return NONE;
        }

        int fewestToKeep() {
            for (int many = 0; many <= city.oaths; many++) {
                for (int set = 0; set < 1 << city.oaths; set++) {
                    if (canBreak(set) && Integer.bitCount(set) == many
                            && endsClashes(set) && upIf(set) == seen.up) {
                        return set;
                    }
                }
            }
            return NONE;
        }

        private boolean canBreak(int set) {
            return (set & ~breakable) == 0;
        }

        private boolean endsClashes(int set) {
            int kept = ~(seen.broken | set);
            for (int o = 0; o < city.oaths; o++) {
                if ((kept >> o & 1) != 0 && (city.clash[o] & kept) != 0) {
                    return false;
                }
            }
            return true;
        }

        int chanceOf(int stone) {
            int sum = 0;
            for (int choices = 0; choices < 1 << city.people; choices++) {
                if ((upIf(brokenBy(choices)) >> stone & 1) != 0) {
                    sum += chanceOfChoices(choices);
                }
            }
            return sum;
        }

        /** In millionths: with six people at most, each by tenths, it is never cut. */
        private int chanceOfChoices(int choices) {
            int product = 1;
            for (int p = 0; p < MOST_PEOPLE; p++) {
                if (p >= city.people) {
                    product *= 10;
                } else {
                    product *= (choices >> p & 1) != 0 ? 10 - city.faith[p] : city.faith[p];
                }
            }
            return product;
        }

        private int brokenBy(int choices) {
            int set = 0;
            for (int p = 0; p < city.people; p++) {
                set |= (choices >> p & 1) != 0 ? city.owned[p] : 0;
            }
            return set & breakable;
        }

        void findSurest(int weight) {
            for (int i = 0; i < chances.length; i++) {
                chances[i] = NONE;
            }
            layBase(0);
            addChances(weight, 0, true);
            for (int choices = 0; choices < 1 << city.people; choices++) {
                int chance = chanceOfChoices(choices);
                int set = brokenBy(choices);
                // The new stone is told last: it is up only where none of the others has fallen.
                if (chance > 0 && upIf(set) == seen.up) {
                    layBase(set);
                    addChances(weight, chance, false);
                }
            }
            bestChance = NONE;
            bestSet = NONE;
            for (int high = 0; high < city.oaths; high++) {
                // As numbers, the set of the high one alone comes ahead of its pairs.
                prefer(high, high);
                for (int low = 0; low < high; low++) {
                    prefer(low, high);
                }
            }
        }

        private void layBase(int set) {
            thought.copy(seen);
            thought.broken |= set;
            wall.standing(city, thought, seen.up);
            wall.save();
        }

        /** A pair has a chance (from 0 on) only if the new stone stands on it now. */
        private void addChances(int weight, int chance, boolean first) {
            for (int high = 0; high < city.oaths; high++) {
                for (int low = 0; low <= high; low++) {
                    int at = low * MOST_OATHS + high;
                    if ((first || chances[at] != NONE) && wall.bearsNew(1 << low | 1 << high, weight)) {
                        chances[at] = first ? 0 : chances[at] + chance;
                    }
                }
            }
        }

        private void prefer(int low, int high) {
            int chance = chances[low * MOST_OATHS + high];
            if (chance > bestChance) {
                bestChance = chance;
                bestSet = 1 << low | 1 << high;
            }
        }

        void findSets(Told told, int most) {
            sets = 0;
            inAll = breakable;
            inSome = 0;
            for (int s = 0; s < MOST_STONES; s++) {
                setsUp[s] = 0;
            }
            for (int set = 0; set < 1 << city.oaths; set++) {
                if (canBreak(set) && Integer.bitCount(set) <= most && told.agrees(upIf(set))) {
                    addSet(set);
                }
            }
        }

        private void addSet(int set) {
            sets++;
            inAll &= set;
            inSome |= set;
            for (int s = 0; s < city.stones; s++) {
                setsUp[s] += upIf(set) >> s & 1;
            }
        }

        int evenestStone() {
            int best = NONE;
            int most = 0;
            for (int s = 0; s < city.stones; s++) {
                int lesser = setsUp[s] < sets - setsUp[s] ? setsUp[s] : sets - setsUp[s];
                if (lesser > most) {
                    most = lesser;
                    best = s;
                }
            }
            return best;
        }

        void choose(int choices) {
            int set = brokenBy(choices);
            chosenUp = upIf(set);
            chosenKept = ~(seen.broken | set);
            wall.settle(city, chosenUp);
        }

        int gainOf(int person, int choices) {
            int gain = (choices >> person & 1) != 0 ? city.tempt[person] : 0;
            int his = city.owned[person] & chosenKept;
            for (int s = 0; s < city.stones; s++) {
                if ((chosenUp >> s & 1) != 0 && (wall.rest[s] & his) != 0) {
                    gain += city.rent[s];
                }
            }
            return gain;
        }

        void fillGains() {
            for (int choices = 0; choices < 1 << city.people; choices++) {
                choose(choices);
                for (int p = 0; p < city.people; p++) {
                    gainTable[choices * MOST_PEOPLE + p] = gainOf(p, choices);
                }
            }
        }

        boolean isRest(int choices) {
            for (int p = 0; p < city.people; p++) {
                int other = choices ^ 1 << p;
                if (gainTable[other * MOST_PEOPLE + p] > gainTable[choices * MOST_PEOPLE + p]) {
                    return false;
                }
            }
            return true;
        }
    }

    /** Tells what comes of a city in time: a life, apologies, centuries; the city stays as it is. */
    private static final class Teller {
        // Three apologies among ten oaths come to some 1,400 turns.
        static final int MOST_TURNS = 10000;

        private final Deeds deeds;
        private final Moment moment = new Moment();
        private final Moment[] steps = new Moment[MOST_APOLOGIES + 1];
        private final int[] row = new int[MOST_APOLOGIES];
        final int[] bestRow = new int[MOST_APOLOGIES];
        int bestWeight;
        int firstRefused;
        int firstFall;
        int upAtLast;
        int cracked;
        int fallen;
        private int seed;

        Teller(Deeds deeds) {
            this.deeds = deeds;
            for (int i = 0; i < steps.length; i++) {
                steps[i] = new Moment();
            }
        }

        void judge(City city, Told life) {
            firstRefused = NONE;
            firstFall = NONE;
            deeds.begin(city, moment);
            for (int i = 0; i < life.lines; i++) {
                int was = moment.up;
                boolean done = deeds.does(city, moment, life.deeds[i], life.whom[i]);
                if (!done && firstRefused == NONE) {
                    firstRefused = i;
                }
                if ((was & ~moment.up) != 0 && firstFall == NONE) {
                    firstFall = i;
                }
            }
            upAtLast = moment.up;
        }

        /** Goes through all rows of oaths, the least first, each from where it parts from the last. */
        void findRow(City city, Moment now, int many) {
            bestWeight = NONE;
            steps[0].copy(now);
            int at = 0;
            row[0] = NONE;
            for (int turn = 0; turn < MOST_TURNS && at >= 0; turn++) {
                row[at]++;
                if (row[at] >= city.oaths) {
                    at--;
                } else if (apologise(city, at)) {
                    if (at + 1 < many) {
                        at++;
                        row[at] = NONE;
                    } else {
                        preferRow(city.weightOf(steps[many].up), many);
                    }
                }
            }
        }

        private boolean apologise(City city, int at) {
            Moment next = steps[at + 1];
            next.copy(steps[at]);
            if (!deeds.pardon(city, next, row[at])) {
                return false;
            }
            for (int s = 0; s < city.stones; s++) {
                deeds.lift(city, next, s);
            }
            deeds.pass(city, next);
            return true;
        }

        private void preferRow(int weight, int many) {
            if (weight > bestWeight) {
                bestWeight = weight;
                for (int i = 0; i < many; i++) {
                    bestRow[i] = row[i];
                }
            }
        }

        void live(City city, Moment now, int firstSeed, int years) {
            moment.copy(now);
            seed = firstSeed;
            cracked = 0;
            fallen = 0;
            for (int y = 0; y < years; y++) {
                for (int p = 0; p < city.people; p++) {
                    liveOne(city, p);
                }
                int was = moment.up;
                deeds.pass(city, moment);
                fallen += Integer.bitCount(was & ~moment.up);
                for (int s = 0; s < city.stones; s++) {
                    deeds.lift(city, moment, s);
                }
            }
            upAtLast = moment.up;
        }

        private void liveOne(City city, int person) {
            int was = moment.up;
            int drawn = draw();
            if (drawn >= city.faith[person]) {
                int his = city.owned[person] & ~city.sureOnes & ~moment.broken;
                cracked += deeds.crack(city, moment, firstOf(his)) ? 1 : 0;
            } else if (drawn == 0) {
                deeds.pardon(city, moment, firstOf(city.owned[person] & moment.broken));
            }
            fallen += Integer.bitCount(was & ~moment.up);
        }

        private static int firstOf(int set) {
            for (int o = 0; o < MOST_OATHS; o++) {
                if ((set >> o & 1) != 0) {
                    return o;
                }
            }
            return NONE;
        }

        private int draw() {
            seed = seed * 1103515245 + 12345 & 2147483647;
            return seed / 65536 % 10;
        }
    }
}
