import java.util.NoSuchElementException;

/** A moor on which only those may guide who have been lost there; ../shared/DOC.md holds its promises. */
public final class MoorGuides {
    public static final int NONE = -1;

    private static final int CANNOT = -2;
    private static final int MOST_PARTS = 8;
    private static final int MOST_PEOPLE = 6;
    private static final int MOST_PARTIES = 8;
    private static final int MOST_WEATHER = 14;
    private static final int MOST_TOLD_SLIDES = 4;
    private static final int MOST_SLIDES = 12;
    private static final int MOST_KNOTS = 64;
    private static final int MOST_OPEN = 8;
    private static final int MOST_BYTES = 900;
    private static final int MOST_CLAIMS = 12;
    private static final int MOST_UNDO = 20;
    private static final int MOST_NIGHTS = 200;
    private static final int MOST_SEASON = 50;
    private static final int MASTERS = 4;
    private static final int LAST_NIGHT = 999;
    private static final int OF_A_SLIDE = -1;

    private final byte[] tape = new byte[MOST_BYTES];
    private int tapeLength;
    private Moor moor = new Moor();
    private Moor draft = new Moor();
    private final Reader reader = new Reader(draft);
    private final Stand stand = new Stand(moor);
    private final Stand image = new Stand(moor);
    private boolean hasImage;
    private int undoable;
    private final int[] undoPerson = new int[MOST_UNDO];
    private final int[] undoPart = new int[MOST_UNDO];
    private final Leading leading = new Leading(stand);
    private final Sharing sharing = new Sharing(stand);
    private final Ordering ordering = new Ordering(stand);
    private final Masters masters = new Masters(moor);
    private final Claims claims = new Claims();

    public MoorGuides() {
    }

    public int feed(int a, int b, int c, int d, int e) {
        if (tapeLength + 20 > MOST_BYTES) {
            return NONE;
        }
        feedNumber(a);
        feedNumber(b);
        feedNumber(c);
        feedNumber(d);
        feedNumber(e);
        return tapeLength;
    }

    private void feedNumber(int number) {
        for (int shift = 24; shift >= 0 && tapeLength < MOST_BYTES; shift -= 8) {
            tape[tapeLength] = (byte) (number >> shift);
            tapeLength++;
        }
    }

    public int text(int n) {
        if (n < 0 || n > tapeLength) {
            return CANNOT;
        }
        tapeLength = 0;
        draft.clear();
        if (!reader.readText(tape, n, draft)) {
            return NONE;
        }
        Moor old = moor;
        moor = draft;
        draft = old;
        stand.begin(moor);
        claims.clear();
        hasImage = false;
        undoable = 0;
        ordering.drop();
        return reader.lines;
    }

    public int fault(int what) {
        if (what == 0) {
            return reader.fault;
        }
        return what == 1 ? reader.place : NONE;
    }

    public int named(int what, int letters) {
        if (what == 0) {
            return indexOf(moor.partNames, moor.parts, letters);
        }
        return what == 1 ? indexOf(moor.people.names, moor.people.size, letters) : NONE;
    }

    public int look(int person, int what) throws IndexOutOfBoundsException, NoSuchElementException {
        if (!isPerson(person)) {
            throw new IndexOutOfBoundsException("no such person");
        }
        switch (what) {
            case 0:
                return stand.isThere(person, stand.night) ? 1 : 0;
            case 1:
                return stand.gone >> person & 1;
            case 2:
                return stand.knownBits(person, stand.night);
            case 3:
                return stand.times[person];
            case 4:
                return moor.people.cost[person];
            case 5:
                return stand.lost[person];
            default:
                throw new NoSuchElementException("no such what");
        }
    }

    public int part(int part, int what) {
        if (!isPart(part)) {
            return NONE;
        }
        switch (what) {
            case 0:
                return moor.odds[part];
            case 1:
                return moor.beside[part];
            case 2:
                return moor.wantedOn(part, stand.night);
            case 3:
                return stand.knowers(part);
            default:
                return NONE;
        }
    }

    public int knows(int person, int part, int night) {
        if (!isPerson(person) || !isPart(part) || !isNight(night)) {
            return NONE;
        }
        return stand.knownBits(person, night) >> part & 1;
    }

    public int steps(int from, int to) {
        return isPart(from) && isPart(to) ? moor.distance(from, to, moor.allParts()) : NONE;
    }

    public int chance(int person, int part) {
        return isThereTonight(person) && isPart(part) ? stand.chanceTonight(person, part) : NONE;
    }

    public long law(int what, int person, int part) {
        if (what < 0 || what > 1 || !isThereTonight(person) || !isPart(part)) {
            return Law.ERROR;
        }
        return stand.lawTonight(what == 0 ? moor.out : moor.pick, person, part);
    }

    public boolean lose(int person, int part) {
        if (!isThereTonight(person) || part != NONE && !isPart(part)) {
            return false;
        }
        remember(person, stand.lost[person]);
        stand.lost[person] = part;
        return true;
    }

    public int nights(int n) {
        if (n < 0 || n > MOST_NIGHTS || stand.night + n > LAST_NIGHT + 1) {
            return NONE;
        }
        for (int i = 0; i < n; i++) {
            stand.goBy();
        }
        if (n > 0) {
            undoable = 0;
            ordering.drop();
        }
        return stand.night;
    }

    public int led(int party, int what) {
        if (!isParty(party) || what < 0 || what > 1) {
            return NONE;
        }
        if (!leading.find(party)) {
            return CANNOT;
        }
        return what == 0 ? leading.hands : leading.length;
    }

    public int way(int party, int k, int what) {
        if (!isParty(party) || k < 0 || what < 0 || what > 1) {
            return NONE;
        }
        if (!leading.find(party) || k >= leading.length) {
            return CANNOT;
        }
        return what == 0 ? leading.parts[k] : leading.guides[k];
    }

    public int round(int party, int part) {
        if (!isParty(party) || !isPart(part)) {
            return NONE;
        }
        int from = moor.start[party];
        int to = moor.goal[party];
        int with = moor.distance(from, to, moor.allParts());
        if (with < 0 || part == from || part == to) {
            return NONE;
        }
        int without = moor.distance(from, to, moor.allParts() & ~(1 << part));
        return without < 0 ? CANNOT : without - with;
    }

    public int share(int night, int what) {
        if (!isNight(night) || what != NONE && !isParty(what)) {
            return NONE;
        }
        sharing.find(night, NONE);
        return what == NONE ? sharing.sum() : sharing.guides[what];
    }

    public int worth(int person, int night) {
        if (!isPerson(person) || !isNight(night)) {
            return NONE;
        }
        sharing.find(night, NONE);
        int with = sharing.sum();
        sharing.find(night, person);
        return with - sharing.sum();
    }

    public int stranger(int parts, int night) {
        if (!isPartSet(parts) || !isNight(night)) {
            return NONE;
        }
        int known = stand.knownByAny(night);
        return moor.priceLed(night, known | parts) - moor.priceLed(night, known);
    }

    public int fewest(int parties, int what) {
        if (parties < 0 || parties >= 1 << moor.parties || what < 0 || what > 1) {
            return NONE;
        }
        int parts = sharing.fewestParts(parties);
        if (parts < 0) {
            return CANNOT;
        }
        return what == 0 ? Integer.bitCount(parts) : parts;
    }

    public long order(int person, int parts, int what) {
        if (!isOrder(person, parts) || what < 0 || what > 1) {
            return NONE;
        }
        ordering.find(person, parts);
        return what == 0 ? ordering.above() : ordering.below();
    }

    public int ordered(int person, int parts, int k) {
        if (!isOrder(person, parts) || k < 0) {
            return NONE;
        }
        ordering.find(person, parts);
        return k < ordering.length ? ordering.best[k] : CANNOT;
    }

    public int pick(int master, int what) {
        if (!isMaster(master) || what < 0 || what > 1) {
            return NONE;
        }
        if (!masters.choose(stand, master)) {
            return CANNOT;
        }
        return what == 0 ? masters.person : masters.part;
    }

    public int season(int master, int seed, int n, int what) {
        if (!isMaster(master) || seed < 0 || n < 1 || n > MOST_SEASON || what < 0 || what > 2) {
            return Integer.MIN_VALUE;
        }
        masters.play(stand, master, seed, n);
        if (what == 0) {
            return masters.money;
        }
        return what == 1 ? masters.newlyGone(stand) : masters.partiesLed;
    }

    public int claim(int person, int night, int part) {
        if (!isPerson(person) || !isNight(night) || !isPart(part)) {
            return NONE;
        }
        return claims.add(moor, person, night, part);
    }

    public int wrongly() {
        return claims.falseOnes();
    }

    public int against(int claim) {
        return claim >= 0 && claim < claims.size ? Integer.bitCount(claims.foes[claim]) : NONE;
    }

    public int slide(int part) {
        if (!isPart(part) || !stand.addSlide(part, stand.night)) {
            return NONE;
        }
        remember(OF_A_SLIDE, NONE);
        ordering.drop();
        return stand.slides;
    }

    public int undo() {
        if (undoable == 0) {
            return NONE;
        }
        undoable--;
        int person = undoPerson[undoable];
        if (person == OF_A_SLIDE) {
            stand.slides--;
        } else {
            stand.lost[person] = undoPart[undoable];
        }
        ordering.drop();
        return undoable;
    }

    public int keep() {
        image.copyFrom(stand);
        hasImage = true;
        return stand.night;
    }

    public int back() {
        if (!hasImage) {
            return NONE;
        }
        stand.copyFrom(image);
        undoable = 0;
        ordering.drop();
        return stand.night;
    }

    public int count(int what) {
        switch (what) {
            case 0:
                return moor.parts;
            case 1:
                return moor.people.size;
            case 2:
                return moor.parties;
            case 3:
                return stand.slides;
            case 4:
                return moor.knots();
            case 5:
                return stand.night;
            case 6:
                return claims.size;
            case 7:
                return Integer.bitCount(stand.gone);
            case 8:
                return undoable;
            case 9:
                return moor.near;
            default:
                return NONE;
        }
    }

    /** Beyond the most that can be undone the oldest one is let go. */
    private void remember(int person, int oldPart) {
        if (undoable == MOST_UNDO) {
            undoable--;
            System.arraycopy(undoPerson, 1, undoPerson, 0, undoable);
            System.arraycopy(undoPart, 1, undoPart, 0, undoable);
        }
        undoPerson[undoable] = person;
        undoPart[undoable] = oldPart;
        undoable++;
    }

    private boolean isPart(int part) {
        return part >= 0 && part < moor.parts;
    }

    private boolean isPartSet(int bits) {
        return (bits & ~moor.allParts()) == 0;
    }

    private boolean isPerson(int person) {
        return person >= 0 && person < moor.people.size;
    }

    private boolean isParty(int party) {
        return party >= 0 && party < moor.parties;
    }

    private boolean isThereTonight(int person) {
        return isPerson(person) && stand.isThere(person, stand.night);
    }

    private boolean isOrder(int person, int parts) {
        return parts != 0 && isPartSet(parts) && isThereTonight(person)
            && stand.isThere(person, stand.night + Integer.bitCount(parts) - 1);
    }

    private static boolean isNight(int night) {
        return night >= 0 && night <= LAST_NIGHT;
    }

    private static boolean isMaster(int master) {
        return master >= 0 && master < MASTERS;
    }

    private static int indexOf(int[] names, int size, int letters) {
        for (int i = 0; i < size && i < names.length; i++) {
            if (names[i] == letters) {
                return i;
            }
        }
        return NONE;
    }

    /** Cuts a text into tokens at once; the one that stands next is in token, with its place. */
    private static final class Tokens {
        static final int END = -1;
        static final int BAD = -2;
        static final int NUMBER = -3;
        static final int NAME = -4;

        static final int PART = 0;
        static final int BESIDE = 1;
        static final int PERSON = 2;
        static final int KNOWS = 3;
        static final int COST = 4;
        static final int FROM = 5;
        static final int TILL = 6;
        static final int FORGET = 7;
        static final int PARTY = 8;
        static final int WEATHER = 9;
        static final int SLIDE = 10;
        static final int NEAR = 11;
        static final int SEED = 12;
        static final int LAW = 13;
        static final int OUT = 14;
        static final int PICK = 15;
        static final int OR = 16;
        static final int AND = 17;
        static final int NOT = 18;
        static final int ODDS = 19;
        static final int AROUND = 20;
        static final int TIMES = 21;
        static final int WANTED = 22;
        static final int NIGHT = 23;

        static final int SEMICOLON = 32;
        static final int OPEN = 33;
        static final int CLOSE = 34;
        static final int PLUS = 35;
        static final int MINUS = 36;
        static final int STAR = 37;
        static final int SLASH = 38;
        static final int BELOW = 39;
        static final int AT_MOST = 40;
        static final int EQUAL = 41;
        static final int OTHER = 42;
        static final int AT_LEAST = 43;
        static final int ABOVE = 44;

        /** The words by their numbers above, a blank behind each. */
        private static final String WORDS =
            "part beside person knows cost from till forget party weather slide near seed law out pick or and not odds around times wanted night ";
        /** The signs by their numbers from SEMICOLON on; in place of those of two signs a blank. */
        private static final String SIGNS = ";()+-*/< =  >";
        private static final int WORD_COUNT = NIGHT + 1;
        private static final int LONGEST_NAME = 6;
        /** So many letters of 5 bits fit a long; no word of the language is as long. */
        private static final int MOST_LETTERS = 12;
        /** Above every number that a text may hold; larger ones stop growing here. */
        private static final int TOO_LARGE = 1000000;

        /** The letters of each word, 5 bits each. */
        private final long[] words = new long[WORD_COUNT];
        private final int[] kinds = new int[MOST_BYTES + 1];
        private final int[] places = new int[MOST_BYTES + 1];
        /** Of a number its value, of a word its letters. */
        private final int[] values = new int[MOST_BYTES + 1];
        private int size;
        private int next;
        private byte[] bytes = new byte[0];
        private int length;
        int token;
        int place;
        int value;

        Tokens() {
            int word = 0;
            for (int i = 0; i < WORDS.length() && word < WORD_COUNT; i++) {
                if (WORDS.charAt(i) == ' ') {
                    word++;
                } else {
                    words[word] = words[word] << 5 | WORDS.charAt(i) - 'a' + 1;
                }
            }
        }

        void begin(byte[] source, int sourceLength) {
            bytes = source;
            length = Math.min(Math.min(sourceLength, source.length), MOST_BYTES);
            size = 0;
            int at = 0;
            for (int i = 0; i < length && at < length; i++) {
                at = cut(at);
            }
            add(END, length, 0);
            next = 0;
            advance();
        }

        /** Behind the last token END stands for ever. */
        void advance() {
            if (next < size) {
                token = kinds[next];
                place = places[next];
                value = values[next];
                next++;
            }
        }

        private void add(int kind, int where, int what) {
            if (size <= MOST_BYTES) {
                kinds[size] = kind;
                places[size] = where;
                values[size] = what;
                size++;
            }
        }

        private int byteAt(int index) {
            return index >= 0 && index < length ? bytes[index] & 255 : 0;
        }

        /** Where the next token may begin. */
        private int cut(int at) {
            int sign = byteAt(at);
            if (sign == ' ' || sign == '\n') {
                return at + 1;
            }
            if (isLetter(sign)) {
                return cutWord(at);
            }
            return isDigit(sign) ? cutNumber(at) : cutSign(at);
        }

        private int cutWord(int at) {
            long letters = 0;
            int end = at;
            for (int i = 0; i < length && isLetter(byteAt(end)); i++) {
                if (i < MOST_LETTERS) {
                    letters = letters << 5 | byteAt(end) - 'a' + 1;
                }
                end++;
            }
            int word = wordNumber(letters);
            int missing = LONGEST_NAME - (end - at);
            if (word != NONE) {
                add(word, at, 0);
            } else if (missing >= 0) {
                add(NAME, at, (int) (letters << 5 * missing));
            } else {
                add(BAD, at, 0);
            }
            return end;
        }

        private int wordNumber(long letters) {
            for (int word = 0; word < WORD_COUNT; word++) {
                if (words[word] == letters) {
                    return word;
                }
            }
            return NONE;
        }

        private int cutNumber(int at) {
            int number = 0;
            int end = at;
            for (int i = 0; i < length && isDigit(byteAt(end)); i++) {
                if (number < TOO_LARGE) {
                    number = number * 10 + byteAt(end) - '0';
                }
                end++;
            }
            add(NUMBER, at, number);
            return end;
        }

        private int cutSign(int at) {
            int sign = byteAt(at);
            int second = byteAt(at + 1);
            if (sign == '<' && second == '=') {
                add(AT_MOST, at, 0);
                return at + 2;
            }
            if (sign == '<' && second == '>') {
                add(OTHER, at, 0);
                return at + 2;
            }
            if (sign == '>' && second == '=') {
                add(AT_LEAST, at, 0);
                return at + 2;
            }
            int kind = BAD;
            for (int i = 0; i < SIGNS.length(); i++) {
                if (SIGNS.charAt(i) == sign) {
                    kind = SEMICOLON + i;
                }
            }
            add(kind, at, 0);
            return at + 1;
        }

        static boolean isName(int token) {
            return token == COST || token == WEATHER || token >= ODDS && token <= NIGHT;
        }

        private static boolean isLetter(int sign) {
            return sign >= 'a' && sign <= 'z';
        }

        private static boolean isDigit(int sign) {
            return sign >= '0' && sign <= '9';
        }
    }

    /** Reads a text into a moor; every fault stands at the token that is next when it is found. */
    private static final class Reader {
        private static final int WRONG_TOKEN = 1;
        private static final int TOO_MUCH = 2;
        private static final int TOLD_ALREADY = 3;
        private static final int NOT_TOLD = 4;
        private static final int MOST_MONEY = 99;
        private static final int MOST_OF_LAW = 9999;

        private static final int LEVEL_OR = 1;
        private static final int LEVEL_AND = 2;
        private static final int LEVEL_NOT = 3;
        private static final int LEVEL_COMPARE = 4;
        private static final int LEVEL_SUM = 5;
        private static final int LEVEL_PRODUCT = 6;

        private final Tokens tokens = new Tokens();
        private Moor moor;
        private boolean nearTold;
        private boolean seedTold;
        /** Signs of a law that wait for what is right of them. */
        private final int[] waiting = new int[MOST_KNOTS + MOST_OPEN];
        private int waitingSize;
        private int open;
        int lines;
        int fault;
        int place = NONE;

        Reader(Moor target) {
            moor = target;
        }

        boolean readText(byte[] bytes, int length, Moor target) {
            moor = target;
            lines = 0;
            fault = 0;
            place = NONE;
            nearTold = false;
            seedTold = false;
            tokens.begin(bytes, length);
            for (int i = 0; i <= length && tokens.token != Tokens.END; i++) {
                if (!readLine() || !pass(Tokens.SEMICOLON)) {
                    return false;
                }
                lines++;
            }
            return true;
        }

        private boolean fail(int kind) {
            fault = kind;
            place = tokens.place;
            return false;
        }

        private boolean pass(int token) {
            if (tokens.token != token) {
                return fail(WRONG_TOKEN);
            }
            tokens.advance();
            return true;
        }

        /** Passes the word of a line or of its options, if it isn't one too much or told already. */
        private boolean passUnless(boolean refused, int kind) {
            if (refused) {
                return fail(kind);
            }
            tokens.advance();
            return true;
        }

        private boolean readLine() {
            switch (tokens.token) {
                case Tokens.PART:
                    return passUnless(moor.parts == MOST_PARTS, TOO_MUCH) && readPart();
                case Tokens.PERSON:
                    return passUnless(moor.people.size == MOST_PEOPLE, TOO_MUCH) && readPerson();
                case Tokens.PARTY:
                    return passUnless(moor.parties == MOST_PARTIES, TOO_MUCH) && readParty();
                case Tokens.WEATHER:
                    return passUnless(moor.weathers > 0, TOLD_ALREADY) && readWeather();
                case Tokens.SLIDE:
                    return passUnless(moor.slides == MOST_TOLD_SLIDES, TOO_MUCH) && readSlide();
                case Tokens.NEAR:
                    return passUnless(nearTold, TOLD_ALREADY) && readNear();
                case Tokens.SEED:
                    return passUnless(seedTold, TOLD_ALREADY) && readSeed();
                case Tokens.LAW:
                    return pass(Tokens.LAW) && readLaw();
                default:
                    return fail(WRONG_TOKEN);
            }
        }

        private boolean readPart() {
            int index = moor.parts;
            if (index >= MOST_PARTS || !readNewName(moor.partNames, index)) {
                return false;
            }
            int odds = readNumber(0, 100);
            if (odds < 0) {
                return false;
            }
            int beside = 0;
            for (int i = 0; i <= MOST_PARTS && tokens.token == Tokens.BESIDE; i++) {
                tokens.advance();
                int bit = readOtherPart(beside);
                if (bit == 0) {
                    return false;
                }
                beside |= bit;
            }
            moor.addPart(odds, beside);
            return true;
        }

        private boolean readPerson() {
            People people = moor.people;
            int index = people.size;
            if (index >= MOST_PEOPLE || !readNewName(people.names, index)) {
                return false;
            }
            people.size++;
            int told = 0;
            for (int i = 0; i < MOST_BYTES; i++) {
                int option = tokens.token;
                if (option == Tokens.KNOWS) {
                    tokens.advance();
                    int bit = readOtherPart(people.first[index]);
                    if (bit == 0) {
                        return false;
                    }
                    people.first[index] |= bit;
                } else if (option >= Tokens.COST && option <= Tokens.FORGET) {
                    boolean again = (told >> option & 1) != 0;
                    told |= 1 << option;
                    if (!passUnless(again, TOLD_ALREADY) || !readOption(option, index)) {
                        return false;
                    }
                } else {
                    return true;
                }
            }
            return true;
        }

        /** From and till bound one another: what isn't told yet has its widest value. */
        private boolean readOption(int option, int person) {
            People people = moor.people;
            int number;
            switch (option) {
                case Tokens.COST:
                    number = readNumber(0, MOST_MONEY);
                    people.cost[person] = number;
                    return number >= 0;
                case Tokens.FROM:
                    number = readNumber(0, people.till[person]);
                    people.from[person] = number;
                    return number >= 0;
                case Tokens.TILL:
                    number = readNumber(people.from[person], LAST_NIGHT);
                    people.till[person] = number;
                    return number >= 0;
                default:
                    number = readNumber(1, LAST_NIGHT);
                    people.forget[person] = number;
                    return number >= 0;
            }
        }

        private boolean readParty() {
            int from = readToldPart();
            int to = from < 0 ? NONE : readToldPart();
            int night = to < 0 ? NONE : readNumber(0, LAST_NIGHT);
            int price = night < 0 ? NONE : readNumber(0, MOST_MONEY);
            if (price < 0) {
                return false;
            }
            moor.addParty(from, to, night, price);
            return true;
        }

        private boolean readWeather() {
            for (int i = 0; i < MOST_WEATHER; i++) {
                int number = readNumber(0, 9);
                if (number < 0) {
                    return false;
                }
                moor.weather[i] = number;
                moor.weathers = i + 1;
                if (tokens.token != Tokens.NUMBER) {
                    return true;
                }
            }
            return fail(TOO_MUCH);
        }

        private boolean readSlide() {
            int part = readToldPart();
            int night = part < 0 ? NONE : readNumber(0, LAST_NIGHT);
            if (night < 0) {
                return false;
            }
            moor.addSlide(part, night);
            return true;
        }

        private boolean readNear() {
            nearTold = true;
            moor.near = readNumber(0, 8);
            return moor.near >= 0;
        }

        private boolean readSeed() {
            seedTold = true;
            moor.seed = readNumber(0, 99999);
            return moor.seed >= 0;
        }

        private boolean readLaw() {
            if (tokens.token != Tokens.OUT && tokens.token != Tokens.PICK) {
                return fail(WRONG_TOKEN);
            }
            Law law = tokens.token == Tokens.OUT ? moor.out : moor.pick;
            return passUnless(law.size > 0, TOLD_ALREADY) && readFormula(law);
        }

        private boolean readNewName(int[] names, int size) {
            if (tokens.token != Tokens.NAME) {
                return fail(WRONG_TOKEN);
            }
            if (indexOf(names, size, tokens.value) != NONE) {
                return fail(TOLD_ALREADY);
            }
            if (size < names.length) {
                names[size] = tokens.value;
            }
            tokens.advance();
            return true;
        }

        private int readNumber(int least, int most) {
            if (tokens.token != Tokens.NUMBER) {
                fail(WRONG_TOKEN);
                return NONE;
            }
            int number = tokens.value;
            if (number < least || number > most) {
                fail(TOO_MUCH);
                return NONE;
            }
            tokens.advance();
            return number;
        }

        private int readToldPart() {
            int part = toldPart();
            if (part != NONE) {
                tokens.advance();
            }
            return part;
        }

        /** The bit of a part that isn't among those already; 0 with a fault. */
        private int readOtherPart(int already) {
            int part = toldPart();
            if (part == NONE) {
                return 0;
            }
            if ((already >> part & 1) != 0) {
                fail(TOLD_ALREADY);
                return 0;
            }
            tokens.advance();
            return 1 << part;
        }

        private int toldPart() {
            if (tokens.token != Tokens.NAME) {
                fail(WRONG_TOKEN);
                return NONE;
            }
            int part = indexOf(moor.partNames, moor.parts, tokens.value);
            if (part == NONE) {
                fail(NOT_TOLD);
            }
            return part;
        }

        /** Turns a law's expression into the order in which it is worked out, without recursion. */
        private boolean readFormula(Law law) {
            waitingSize = 0;
            open = 0;
            boolean wantsValue = true;
            for (int i = 0; i <= MOST_BYTES; i++) {
                if (!wantsValue && open == 0 && tokens.token == Tokens.SEMICOLON) {
                    release(law, LEVEL_OR);
                    return true;
                }
                boolean isValue = isValue(tokens.token);
                boolean closes = tokens.token == Tokens.CLOSE;
                if (wantsValue ? !readBeginning(law) : !readSign(law)) {
                    return false;
                }
                wantsValue = wantsValue ? !isValue : !closes;
                tokens.advance();
            }
            return fail(WRONG_TOKEN);
        }

        private boolean readBeginning(Law law) {
            int token = tokens.token;
            if (token == Tokens.OPEN) {
                open++;
                return open <= MOST_OPEN ? await(token) : fail(TOO_MUCH);
            }
            if (token == Tokens.NOT && level(lastWaiting()) <= LEVEL_NOT) {
                return countKnot() && await(token);
            }
            if (!isValue(token)) {
                return fail(WRONG_TOKEN);
            }
            if (token != Tokens.NUMBER) {
                return countKnot() && law.add(~token);
            }
            return tokens.value <= MOST_OF_LAW ? countKnot() && law.add(tokens.value) : fail(TOO_MUCH);
        }

        private boolean readSign(Law law) {
            int token = tokens.token;
            if (token == Tokens.CLOSE && open > 0) {
                release(law, LEVEL_OR);
                waitingSize = Math.max(0, waitingSize - 1);
                open--;
                return true;
            }
            int level = level(token);
            if (level == 0 || level == LEVEL_NOT) {
                return fail(WRONG_TOKEN);
            }
            release(law, level == LEVEL_COMPARE ? LEVEL_SUM : level);
            if (level == LEVEL_COMPARE && level(lastWaiting()) == LEVEL_COMPARE) {
                return fail(WRONG_TOKEN);
            }
            return countKnot() && await(token);
        }

        /** Signs that bind at least so much have all that is theirs, back to the last bracket. */
        private void release(Law law, int least) {
            for (int i = waitingSize; i > 0 && level(lastWaiting()) >= least; i--) {
                law.add(~lastWaiting());
                waitingSize--;
            }
        }

        private boolean await(int token) {
            if (waitingSize >= waiting.length) {
                return fail(TOO_MUCH);
            }
            waiting[waitingSize] = token;
            waitingSize++;
            return true;
        }

        private int lastWaiting() {
            return waitingSize > 0 ? waiting[waitingSize - 1] : Tokens.OPEN;
        }

        private boolean countKnot() {
            return moor.countKnot() || fail(TOO_MUCH);
        }

        private static boolean isValue(int token) {
            return token == Tokens.NUMBER || Tokens.isName(token);
        }

        private static int level(int token) {
            if (token >= Tokens.BELOW && token <= Tokens.ABOVE) {
                return LEVEL_COMPARE;
            }
            switch (token) {
                case Tokens.OR:
                    return LEVEL_OR;
                case Tokens.AND:
                    return LEVEL_AND;
                case Tokens.NOT:
                    return LEVEL_NOT;
                case Tokens.PLUS:
                case Tokens.MINUS:
                    return LEVEL_SUM;
                case Tokens.STAR:
                case Tokens.SLASH:
                    return LEVEL_PRODUCT;
                default:
                    return 0;
            }
        }
    }

    /** An expression as its knots, each sign behind both its sides: numbers as they are, others as ~token. */
    private static final class Law {
        static final long ERROR = Long.MIN_VALUE;
        private static final long MOST = 1000000000000L;

        private final int[] code = new int[MOST_KNOTS];
        private final long[] values = new long[MOST_KNOTS];
        int size;

        boolean add(int knot) {
            if (size >= code.length) {
                return false;
            }
            code[size] = knot;
            size++;
            return true;
        }

        /** Of names by their token; ERROR without a law, too. */
        long workOut(long[] names) {
            int depth = 0;
            for (int i = 0; i < size; i++) {
                int knot = code[i];
                int token = ~knot;
                long value;
                if (knot >= 0) {
                    value = knot;
                    depth++;
                } else if (token < names.length && Tokens.isName(token)) {
                    value = names[token];
                    depth++;
                } else if (token == Tokens.NOT && depth > 0) {
                    value = values[depth - 1] == 0 ? 1 : 0;
                } else if (depth > 1) {
                    depth--;
                    value = join(token, values[depth - 1], values[depth]);
                } else {
                    return ERROR;
                }
                if (value > MOST || value < -MOST || depth > values.length) {
                    return ERROR;
                }
                values[depth - 1] = value;
            }
            return depth == 1 ? values[0] : ERROR;
        }

        /** Factors are looked at ahead, since a product of two allowed values may not fit a long. */
        private static long join(int token, long left, long right) {
            switch (token) {
                case Tokens.OR:
                    return left != 0 || right != 0 ? 1 : 0;
                case Tokens.AND:
                    return left != 0 && right != 0 ? 1 : 0;
                case Tokens.PLUS:
                    return left + right;
                case Tokens.MINUS:
                    return left - right;
                case Tokens.STAR:
                    return left != 0 && Math.abs(right) > MOST / Math.abs(left) ? ERROR : left * right;
                case Tokens.SLASH:
                    return right == 0 ? ERROR : left / right;
                case Tokens.BELOW:
                    return left < right ? 1 : 0;
                case Tokens.AT_MOST:
                    return left <= right ? 1 : 0;
                case Tokens.EQUAL:
                    return left == right ? 1 : 0;
                case Tokens.OTHER:
                    return left != right ? 1 : 0;
                case Tokens.AT_LEAST:
                    return left >= right ? 1 : 0;
                default:
                    return left > right ? 1 : 0;
            }
        }
    }

    /** The people as the text tells them. */
    private static final class People {
        int size;
        final int[] names = new int[MOST_PEOPLE];
        final int[] first = new int[MOST_PEOPLE];
        final int[] cost = new int[MOST_PEOPLE];
        final int[] from = new int[MOST_PEOPLE];
        final int[] till = new int[MOST_PEOPLE];
        final int[] forget = new int[MOST_PEOPLE];

        void clear() {
            size = 0;
            for (int i = 0; i < MOST_PEOPLE; i++) {
                first[i] = 0;
                cost[i] = 1;
                from[i] = 0;
                till[i] = LAST_NIGHT;
                forget[i] = LAST_NIGHT;
            }
        }
    }

    /** What the text tells: it stays until the next text. */
    private static final class Moor {
        int parts;
        final int[] partNames = new int[MOST_PARTS];
        final int[] odds = new int[MOST_PARTS];
        final int[] beside = new int[MOST_PARTS];
        final People people = new People();
        int parties;
        final int[] start = new int[MOST_PARTIES];
        final int[] goal = new int[MOST_PARTIES];
        final int[] partyNight = new int[MOST_PARTIES];
        final int[] price = new int[MOST_PARTIES];
        int weathers;
        final int[] weather = new int[MOST_WEATHER];
        int slides;
        final int[] slidePart = new int[MOST_TOLD_SLIDES];
        final int[] slideNight = new int[MOST_TOLD_SLIDES];
        int near;
        int seed;
        private int knotCount;
        final Law out = new Law();
        final Law pick = new Law();

        void clear() {
            parts = 0;
            people.clear();
            parties = 0;
            weathers = 0;
            slides = 0;
            near = 0;
            seed = 0;
            knotCount = 0;
            out.size = 0;
            pick.size = 0;
        }

        void addPart(int partOdds, int neighbours) {
            if (parts >= MOST_PARTS) {
                return;
            }
            odds[parts] = partOdds;
            beside[parts] = neighbours;
            for (int other = 0; other < parts; other++) {
                if ((neighbours >> other & 1) != 0) {
                    beside[other] |= 1 << parts;
                }
            }
            parts++;
        }

        void addParty(int from, int to, int night, int partyPrice) {
            if (parties >= MOST_PARTIES) {
                return;
            }
            start[parties] = from;
            goal[parties] = to;
            partyNight[parties] = night;
            price[parties] = partyPrice;
            parties++;
        }

        void addSlide(int part, int night) {
            if (slides >= MOST_TOLD_SLIDES) {
                return;
            }
            slidePart[slides] = part;
            slideNight[slides] = night;
            slides++;
        }

        boolean countKnot() {
            if (knotCount >= MOST_KNOTS) {
                return false;
            }
            knotCount++;
            return true;
        }

        int knots() {
            return knotCount;
        }

        int allParts() {
            return (1 << parts) - 1;
        }

        int weatherOn(int night) {
            return weathers > 0 ? weather[Math.floorMod(night, weathers)] : 0;
        }

        int wantedOn(int part, int night) {
            int wanted = 0;
            for (int i = 0; i < parties; i++) {
                if (partyNight[i] >= night && (start[i] == part || goal[i] == part)) {
                    wanted++;
                }
            }
            return wanted;
        }

        /** Fewest steps through allowed parts alone; CANNOT without a way. */
        int distance(int from, int to, int allowed) {
            int seen = 1 << from & allowed;
            for (int steps = 0; steps < MOST_PARTS; steps++) {
                if ((seen >> to & 1) != 0) {
                    return steps;
                }
                int wider = seen;
                for (int part = 0; part < parts; part++) {
                    if ((seen >> part & 1) != 0) {
                        wider |= beside[part];
                    }
                }
                seen = wider & allowed;
            }
            return CANNOT;
        }

        boolean isNear(int part, int other) {
            int steps = distance(part, other, allParts());
            return steps >= 0 && steps <= near;
        }

        /** Hands don't matter for whether there is a way: each part needs just somebody who knows it. */
        boolean isLed(int party, int known) {
            return distance(start[party], goal[party], known) >= 0;
        }

        int priceLed(int night, int known) {
            int sum = 0;
            for (int i = 0; i < parties; i++) {
                if (partyNight[i] == night && isLed(i, known)) {
                    sum += price[i];
                }
            }
            return sum;
        }
    }

    /** How it stands: all that nights and calls change, but for claims. */
    private static final class Stand {
        /** Learned at first: any slide from night 0 on is behind it. */
        private static final int AT_FIRST = -1;
        private static final int NEVER = -2;

        Moor moor;
        int night;
        long number;
        int gone;
        final int[] times = new int[MOST_PEOPLE];
        private final int[][] learned = new int[MOST_PEOPLE][MOST_PARTS];
        final int[] lost = new int[MOST_PEOPLE];
        int slides;
        private final int[] slidePart = new int[MOST_SLIDES];
        private final int[] slideNight = new int[MOST_SLIDES];
        private final long[] names = new long[Tokens.NIGHT + 1];

        Stand(Moor first) {
            begin(first);
        }

        void begin(Moor told) {
            moor = told;
            night = 0;
            number = told.seed;
            gone = 0;
            for (int person = 0; person < MOST_PEOPLE; person++) {
                times[person] = 0;
                lost[person] = NONE;
                for (int part = 0; part < MOST_PARTS; part++) {
                    learned[person][part] = (told.people.first[person] >> part & 1) != 0 ? AT_FIRST : NEVER;
                }
            }
            slides = 0;
            for (int i = 0; i < told.slides; i++) {
                addSlide(told.slidePart[i], told.slideNight[i]);
            }
        }

        void copyFrom(Stand other) {
            moor = other.moor;
            night = other.night;
            number = other.number;
            gone = other.gone;
            for (int person = 0; person < MOST_PEOPLE; person++) {
                times[person] = other.times[person];
                lost[person] = other.lost[person];
                System.arraycopy(other.learned[person], 0, learned[person], 0, MOST_PARTS);
            }
            slides = other.slides;
            System.arraycopy(other.slidePart, 0, slidePart, 0, MOST_SLIDES);
            System.arraycopy(other.slideNight, 0, slideNight, 0, MOST_SLIDES);
        }

        boolean addSlide(int part, int onNight) {
            if (slides >= MOST_SLIDES) {
                return false;
            }
            slidePart[slides] = part;
            slideNight[slides] = onNight;
            slides++;
            return true;
        }

        boolean isThere(int person, int onNight) {
            return (gone >> person & 1) == 0 && moor.people.from[person] <= onNight
                && onNight < moor.people.till[person];
        }

        int knownBits(int person, int onNight) {
            if (!isThere(person, onNight)) {
                return 0;
            }
            int[] when = learned[person];
            int oldest = onNight - moor.people.forget[person];
            int bits = 0;
            for (int part = 0; part < moor.parts; part++) {
                int since = when[part] == AT_FIRST ? 0 : when[part];
                if (since >= 0 && since <= onNight && since >= oldest) {
                    bits |= 1 << part;
                }
            }
            for (int i = 0; i < slides; i++) {
                if (slideNight[i] <= onNight && slideNight[i] > when[slidePart[i]]) {
                    bits &= ~(1 << slidePart[i]);
                }
            }
            return bits;
        }

        int knownByAny(int onNight) {
            int bits = 0;
            for (int person = 0; person < moor.people.size; person++) {
                bits |= knownBits(person, onNight);
            }
            return bits;
        }

        int knowers(int part) {
            int sum = 0;
            for (int person = 0; person < moor.people.size; person++) {
                sum += knownBits(person, night) >> part & 1;
            }
            return sum;
        }

        /** The last night up to which one who learns a part on a night knows it. */
        int knownUntil(int person, int part, int onNight) {
            int last = onNight + moor.people.forget[person];
            for (int i = 0; i < slides; i++) {
                if (slidePart[i] == part && slideNight[i] > onNight) {
                    last = Math.min(last, slideNight[i] - 1);
                }
            }
            return last;
        }

        int chanceTonight(int person, int part) {
            return chanceOn(person, part, night, aroundTonight(person, part), times[person]);
        }

        long lawTonight(Law law, int person, int part) {
            tellNames(person, part, night, aroundTonight(person, part), times[person]);
            return law.workOut(names);
        }

        private int aroundTonight(int person, int part) {
            return Integer.bitCount(moor.beside[part] & knownBits(person, night));
        }

        int chanceOn(int person, int part, int onNight, int around, int timesOut) {
            if (moor.out.size == 0) {
                return moor.odds[part];
            }
            tellNames(person, part, onNight, around, timesOut);
            long value = moor.out.workOut(names);
            if (value == Law.ERROR) {
                return moor.odds[part];
            }
            return value > 100 ? 100 : value < 0 ? 0 : (int) value;
        }

        private void tellNames(int person, int part, int onNight, int around, int timesOut) {
            names[Tokens.ODDS] = moor.odds[part];
            names[Tokens.AROUND] = around;
            names[Tokens.WEATHER] = moor.weatherOn(onNight);
            names[Tokens.TIMES] = timesOut;
            names[Tokens.WANTED] = moor.wantedOn(part, onNight);
            names[Tokens.COST] = moor.people.cost[person];
            names[Tokens.NIGHT] = onNight;
        }

        void loseNobody() {
            for (int person = 0; person < MOST_PEOPLE; person++) {
                lost[person] = NONE;
            }
        }

        /** What one learns or that one is gone changes no other one's chance, so one by one is as at once. */
        void goBy() {
            for (int person = 0; person < moor.people.size; person++) {
                int part = lost[person];
                if (part >= 0 && part < moor.parts) {
                    spend(person, part);
                }
            }
            loseNobody();
            night++;
        }

        private void spend(int person, int part) {
            number = number * 1103515245L + 12345L & 0x7fffffffL;
            int around = aroundTonight(person, part);
            if (number / 65536 % 100 >= chanceOn(person, part, night, around, times[person])) {
                gone |= 1 << person;
                return;
            }
            times[person]++;
            if (!isSpoilt(person, part)) {
                learned[person][part] = night;
            }
        }

        private boolean isSpoilt(int person, int part) {
            for (int other = 0; other < moor.people.size; other++) {
                if (other != person && lost[other] != NONE && moor.isNear(part, lost[other])) {
                    return true;
                }
            }
            return false;
        }
    }

    /** By which way and guides a party is led. */
    private static final class Leading {
        /** One change of guide weighs more than all parts of a way. */
        private static final int HAND = 16;
        private static final int FAR = 1 << 20;

        private final Stand stand;
        private final int[] known = new int[MOST_PEOPLE];
        /** From a part with a guide to the goal: hands times HAND and parts. */
        private final int[][] left = new int[MOST_PARTS][MOST_PEOPLE];
        private final int[] leastLeft = new int[MOST_PARTS];
        /** At each part of the way the guides (bits) with whom it still is the best. */
        private final int[] able = new int[MOST_PARTS];
        final int[] parts = new int[MOST_PARTS];
        final int[] guides = new int[MOST_PARTS];
        int length;
        int hands;

        Leading(Stand now) {
            stand = now;
        }

        boolean find(int party) {
            length = 0;
            hands = 0;
            Moor moor = stand.moor;
            for (int guide = 0; guide < moor.people.size; guide++) {
                known[guide] = stand.knownBits(guide, moor.partyNight[party]);
            }
            measure(moor.goal[party]);
            int from = moor.start[party];
            if (leastLeft[from] >= FAR) {
                return false;
            }
            hands = leastLeft[from] / HAND;
            followParts(from, leastLeft[from] % HAND);
            nameGuides();
            return true;
        }

        /** A best way has no part twice, so as many rounds as parts are enough. */
        private void measure(int goal) {
            for (int part = 0; part < MOST_PARTS; part++) {
                leastLeft[part] = FAR;
                for (int guide = 0; guide < MOST_PEOPLE; guide++) {
                    left[part][guide] = FAR;
                }
            }
            for (int guide = 0; guide < stand.moor.people.size; guide++) {
                if (isKnown(goal, guide)) {
                    left[goal][guide] = 1;
                    leastLeft[goal] = 1;
                }
            }
            boolean changed = true;
            for (int round = 0; round < MOST_PARTS && changed; round++) {
                changed = false;
                for (int part = 0; part < stand.moor.parts; part++) {
                    changed |= shorten(part);
                }
            }
        }

        private boolean isKnown(int part, int guide) {
            return (known[guide] >> part & 1) != 0;
        }

        private boolean shorten(int part) {
            boolean changed = false;
            for (int guide = 0; guide < stand.moor.people.size; guide++) {
                int least = isKnown(part, guide) ? leastBehind(part, guide) : FAR;
                if (least < left[part][guide]) {
                    left[part][guide] = least;
                    leastLeft[part] = Math.min(leastLeft[part], least);
                    changed = true;
                }
            }
            return changed;
        }

        private int leastBehind(int part, int guide) {
            int least = FAR;
            for (int next = 0; next < stand.moor.parts; next++) {
                if ((stand.moor.beside[part] >> next & 1) != 0) {
                    least = Math.min(least, 1 + Math.min(left[next][guide], leastLeft[next] + HAND));
                }
            }
            return least;
        }

        private void followParts(int from, int size) {
            parts[0] = from;
            able[0] = 0;
            for (int guide = 0; guide < stand.moor.people.size; guide++) {
                if (left[from][guide] == leastLeft[from]) {
                    able[0] |= 1 << guide;
                }
            }
            length = Math.min(size, MOST_PARTS);
            for (int k = 1; k < length; k++) {
                chooseNext(k);
            }
        }

        private void chooseNext(int k) {
            int part = parts[k - 1];
            able[k] = 0;
            for (int next = 0; next < stand.moor.parts && able[k] == 0; next++) {
                if ((stand.moor.beside[part] >> next & 1) != 0) {
                    parts[k] = next;
                    able[k] = ableBehind(part, next, able[k - 1]);
                }
            }
        }

        private int ableBehind(int part, int next, int guidesBefore) {
            int bits = 0;
            for (int guide = 0; guide < stand.moor.people.size; guide++) {
                for (int before = 0; before < stand.moor.people.size; before++) {
                    if ((guidesBefore >> before & 1) != 0 && isBest(part, before, next, guide)) {
                        bits |= 1 << guide;
                    }
                }
            }
            return bits;
        }

        private boolean isBest(int part, int guide, int next, int nextGuide) {
            if (guide < 0 || guide >= MOST_PEOPLE || nextGuide < 0 || nextGuide >= MOST_PEOPLE) {
                return false;
            }
            int hand = guide == nextGuide ? 0 : HAND;
            return left[next][nextGuide] < FAR && left[part][guide] == 1 + hand + left[next][nextGuide];
        }

        private void nameGuides() {
            for (int k = length - 2; k >= 0; k--) {
                int still = 0;
                for (int guide = 0; guide < stand.moor.people.size; guide++) {
                    if ((able[k] >> guide & 1) != 0 && leastGuide(k, guide, able[k + 1]) != NONE) {
                        still |= 1 << guide;
                    }
                }
                able[k] = still;
            }
            guides[0] = Integer.numberOfTrailingZeros(able[0]);
            for (int k = 1; k < length; k++) {
                guides[k] = leastGuide(k - 1, guides[k - 1], able[k]);
            }
        }

        private int leastGuide(int k, int guide, int among) {
            for (int next = 0; next < stand.moor.people.size; next++) {
                if ((among >> next & 1) != 0 && isBest(parts[k], guide, parts[k + 1], next)) {
                    return next;
                }
            }
            return NONE;
        }
    }

    /** Guides shared out among the parties of a night, and what somebody new would have to know. */
    private static final class Sharing {
        private static final int ALL_GUIDES = (1 << MOST_PEOPLE) - 1;

        private final Stand stand;
        /** The most price of the parties from one on, by the guides (bits) that are free. */
        private final int[][] most = new int[MOST_PARTIES + 1][ALL_GUIDES + 1];
        private final int[] leaders = new int[MOST_PARTIES];
        private final int[] known = new int[MOST_PARTIES];
        final int[] guides = new int[MOST_PARTIES];

        Sharing(Stand now) {
            stand = now;
        }

        int sum() {
            return most[0][ALL_GUIDES];
        }

        void find(int night, int without) {
            nameLeaders(night, without);
            int parties = stand.moor.parties;
            for (int free = 0; free <= ALL_GUIDES; free++) {
                most[parties][free] = 0;
            }
            for (int party = parties - 1; party >= 0; party--) {
                for (int free = 0; free <= ALL_GUIDES; free++) {
                    most[party][free] = mostFrom(party, free, stand.moor.price[party]);
                }
            }
            nameGuides(stand.moor);
        }

        private void nameLeaders(int night, int without) {
            Moor moor = stand.moor;
            for (int party = 0; party < moor.parties; party++) {
                leaders[party] = 0;
            }
            for (int guide = 0; guide < moor.people.size; guide++) {
                int parts = guide == without ? 0 : stand.knownBits(guide, night);
                for (int party = 0; party < moor.parties && parts != 0; party++) {
                    if (moor.partyNight[party] == night && moor.isLed(party, parts)) {
                        leaders[party] |= 1 << guide;
                    }
                }
            }
        }

        private int mostFrom(int party, int free, int price) {
            int best = most[party + 1][free];
            int able = leaders[party] & free;
            for (int guide = 0; guide < MOST_PEOPLE && able != 0; guide++) {
                if ((able >> guide & 1) != 0) {
                    best = Math.max(best, price + most[party + 1][free & ~(1 << guide)]);
                }
            }
            return best;
        }

        private void nameGuides(Moor moor) {
            int free = ALL_GUIDES;
            for (int party = 0; party < moor.parties; party++) {
                guides[party] = CANNOT;
                int able = leaders[party] & free;
                for (int guide = MOST_PEOPLE - 1; guide >= 0; guide--) {
                    if ((able >> guide & 1) != 0
                        && most[party][free] == moor.price[party] + most[party + 1][free & ~(1 << guide)]) {
                        guides[party] = guide;
                    }
                }
                if (guides[party] >= 0) {
                    free &= ~(1 << guides[party]);
                }
            }
        }

        /** CANNOT, if not even one who knows all is enough. */
        int fewestParts(int parties) {
            Moor moor = stand.moor;
            for (int party = 0; party < moor.parties; party++) {
                known[party] = (parties >> party & 1) != 0 ? stand.knownByAny(moor.partyNight[party]) : 0;
            }
            int best = CANNOT;
            int fewest = MOST_PARTS + 1;
            for (int parts = 0; parts <= moor.allParts(); parts++) {
                if (Integer.bitCount(parts) < fewest && areLed(moor, parties, parts)) {
                    best = parts;
                    fewest = Integer.bitCount(parts);
                }
            }
            return best;
        }

        private boolean areLed(Moor moor, int parties, int parts) {
            for (int party = 0; party < moor.parties; party++) {
                if ((parties >> party & 1) != 0 && !moor.isLed(party, known[party] | parts)) {
                    return false;
                }
            }
            return true;
        }
    }

    /** The likeliest order of parts for one; kept until something changes. */
    private static final class Ordering {
        private static final int MOST_AROUND = MOST_PARTS + 1;

        private final Stand stand;
        private int person = NONE;
        private int all;
        /** By step, part and how many around are known. */
        private final int[] chances = new int[MOST_PARTS * MOST_PARTS * MOST_AROUND];
        /** What is known at each step without being lost. */
        private final int[] knownAnyway = new int[MOST_PARTS];
        /** By part and the step on which it is learned: up to which step it is known. */
        private final int[][] until = new int[MOST_PARTS][MOST_PARTS];
        /** By step: up to which one a part learned on it may be known. */
        private final int[] latest = new int[MOST_PARTS];
        /** The parts that are still known at the last step, whenever they are learned. */
        private int lasting;
        /** By the parts tried already: what the others can bring at most. */
        private final long[] mostBehind = new long[1 << MOST_PARTS];
        private final int[] tried = new int[MOST_PARTS];
        private long bestProduct;
        final int[] best = new int[MOST_PARTS];
        int length;

        Ordering(Stand now) {
            stand = now;
        }

        void drop() {
            person = NONE;
        }

        void find(int who, int parts) {
            if (who == person && parts == all) {
                return;
            }
            person = who;
            all = parts;
            length = Math.min(Integer.bitCount(parts), MOST_PARTS);
            lasting = parts;
            for (int step = 0; step < length; step++) {
                prepare(step);
            }
            for (int used = mostBehind.length - 1; used >= 0; used--) {
                if ((used & ~all) == 0) {
                    mostBehind[used] = mostFrom(used);
                }
            }
            bestProduct = -1;
            goOn(0, 0, 1);
        }

        private void prepare(int step) {
            int night = stand.night + step;
            knownAnyway[step] = stand.knownBits(person, night);
            latest[step] = 0;
            for (int part = 0; part < stand.moor.parts; part++) {
                if ((all >> part & 1) != 0) {
                    until[part][step] = stand.knownUntil(person, part, night) - stand.night;
                    latest[step] = Math.max(latest[step], until[part][step]);
                    if (until[part][step] < length - 1) {
                        lasting &= ~(1 << part);
                    }
                    fillChances(step, part);
                }
            }
        }

        private void fillChances(int step, int part) {
            int mostAround = Math.min(Integer.bitCount(stand.moor.beside[part]), MOST_PARTS);
            for (int around = 0; around <= mostAround; around++) {
                chances[slot(step, part, around)] =
                    stand.chanceOn(person, part, stand.night + step, around, stand.times[person] + step);
            }
        }

        /** When the parts already used were learned is open here, and so is whether each is known still. */
        private long mostFrom(int used) {
            int step = Integer.bitCount(used);
            if (step >= length) {
                return 1;
            }
            int anyway = knownAnyway[step] & ~used;
            int fresh = freshAt(step);
            long most = 0;
            for (int part = 0; part < stand.moor.parts; part++) {
                if ((all & ~used & 1 << part) != 0) {
                    int beside = stand.moor.beside[part];
                    int least = Integer.bitCount(beside & (anyway | lasting & used));
                    int greatest = Math.min(Integer.bitCount(beside & anyway) + fresh,
                        Integer.bitCount(beside & (anyway | used)));
                    most = Math.max(most, chanceAtMost(step, part, least, greatest) * mostBehind[used | 1 << part]);
                }
            }
            return most;
        }

        /** Of the parts learned on the way: how many may be known still. */
        private int freshAt(int step) {
            int fresh = 0;
            for (int i = 0; i < step; i++) {
                if (latest[i] >= step) {
                    fresh++;
                }
            }
            return fresh;
        }

        private long chanceAtMost(int step, int part, int leastAround, int mostAround) {
            int most = 0;
            for (int around = leastAround; around <= mostAround; around++) {
                most = Math.max(most, chances[slot(step, part, around)]);
            }
            return most;
        }

        private static int slot(int step, int part, int around) {
            return (step * MOST_PARTS + part) * MOST_AROUND + around;
        }

        /** Tries orders from the first on, so that only a likelier one takes the place of another. */
        private void goOn(int step, int used, long product) {
            if (step >= length) {
                bestProduct = product;
                System.arraycopy(tried, 0, best, 0, length);
                return;
            }
            int known = knownAt(step, used);
            for (int part = 0; part < stand.moor.parts; part++) {
                if ((all & ~used & 1 << part) != 0) {
                    int around = Integer.bitCount(stand.moor.beside[part] & known);
                    long next = product * chances[slot(step, part, around)];
                    int nextUsed = used | 1 << part;
                    if (next * mostBehind[nextUsed] > bestProduct) {
                        tried[step] = part;
                        goOn(step + 1, nextUsed, next);
                    }
                }
            }
        }

        private int knownAt(int step, int used) {
            int known = knownAnyway[step] & ~used;
            for (int i = 0; i < step; i++) {
                if (until[tried[i]][i] >= step) {
                    known |= 1 << tried[i];
                }
            }
            return known;
        }

        long above() {
            return bestProduct / divisor();
        }

        long below() {
            return hundreds() / divisor();
        }

        private long hundreds() {
            long product = 1;
            for (int i = 0; i < length; i++) {
                product *= 100;
            }
            return product;
        }

        /** The greatest that divides both; never below 1. */
        private long divisor() {
            long a = hundreds();
            long b = Math.max(0, bestProduct);
            for (int i = 0; i < 100 && b != 0; i++) {
                long rest = a % b;
                a = b;
                b = rest;
            }
            return Math.max(1, a);
        }
    }

    /** Masters who pick whom to lose, and seasons by them. */
    private static final class Masters {
        private static final int NEAR_ONE = 0;
        private static final int WAY_ONE = 1;
        private static final int SAFE_ONE = 2;

        private final Stand trial;
        int person;
        int part;
        int money;
        int partiesLed;

        Masters(Moor moor) {
            trial = new Stand(moor);
        }

        /** False, if there is nobody to pick; only a greater rate takes the place of one ahead. */
        boolean choose(Stand stand, int master) {
            person = NONE;
            part = NONE;
            long best = Long.MIN_VALUE;
            for (int who = 0; who < stand.moor.people.size; who++) {
                int known = stand.knownBits(who, stand.night);
                int open = stand.isThere(who, stand.night) ? stand.moor.allParts() & ~known : 0;
                for (int where = 0; where < stand.moor.parts && open != 0; where++) {
                    int around = Integer.bitCount(stand.moor.beside[where] & known);
                    long rate = (open >> where & 1) != 0 ? rate(stand, master, who, where, around) : best;
                    if (rate > best) {
                        best = rate;
                        person = who;
                        part = where;
                    }
                }
            }
            return person != NONE;
        }

        private static long rate(Stand stand, int master, int who, int where, int around) {
            switch (master) {
                case NEAR_ONE:
                    return around > 0 ? 1 : 0;
                case WAY_ONE:
                    return stand.moor.wantedOn(where, stand.night);
                case SAFE_ONE:
                    return stand.chanceOn(who, where, stand.night, around, stand.times[who]);
                default:
                    long value = stand.lawTonight(stand.moor.pick, who, where);
                    return value == Law.ERROR ? 0 : value;
            }
        }

        void play(Stand stand, int master, int seed, int n) {
            trial.copyFrom(stand);
            trial.loseNobody();
            trial.number = seed;
            money = 0;
            partiesLed = 0;
            for (int i = 0; i < n; i++) {
                leadParties();
                if (choose(trial, master)) {
                    money -= trial.moor.people.cost[person];
                    trial.lost[person] = part;
                }
                trial.goBy();
            }
        }

        private void leadParties() {
            Moor moor = trial.moor;
            int knownTonight = trial.knownByAny(trial.night);
            for (int party = 0; party < moor.parties; party++) {
                if (moor.partyNight[party] == trial.night && moor.isLed(party, knownTonight)) {
                    money += moor.price[party];
                    partiesLed++;
                }
            }
        }

        int newlyGone(Stand stand) {
            return Integer.bitCount(trial.gone & ~stand.gone);
        }
    }

    /** Who is said to have been lost where and when. */
    private static final class Claims {
        int size;
        private final int[] people = new int[MOST_CLAIMS];
        private final int[] nightsOf = new int[MOST_CLAIMS];
        private final int[] parts = new int[MOST_CLAIMS];
        /** The claims (bits) that can't be together with each one. */
        final int[] foes = new int[MOST_CLAIMS];

        void clear() {
            size = 0;
        }

        int add(Moor moor, int person, int night, int part) {
            if (size >= MOST_CLAIMS) {
                return NONE;
            }
            int own = size;
            people[own] = person;
            nightsOf[own] = night;
            parts[own] = part;
            foes[own] = 0;
            for (int other = 0; other < own; other++) {
                if (nightsOf[other] == night && clash(moor, own, other)) {
                    foes[own] |= 1 << other;
                    foes[other] |= 1 << own;
                }
            }
            size++;
            return own;
        }

        private boolean clash(Moor moor, int one, int other) {
            if (people[one] == people[other]) {
                return parts[one] != parts[other];
            }
            return moor.isNear(parts[one], parts[other]);
        }

        int falseOnes() {
            int best = 0;
            int fewest = MOST_CLAIMS + 1;
            for (int bits = 0; bits < 1 << size; bits++) {
                if (Integer.bitCount(bits) < fewest && othersCanBe(bits)) {
                    best = bits;
                    fewest = Integer.bitCount(bits);
                }
            }
            return best;
        }

        private boolean othersCanBe(int without) {
            for (int i = 0; i < size; i++) {
                if ((without >> i & 1) == 0 && (foes[i] & ~without) != 0) {
                    return false;
                }
            }
            return true;
        }
    }
}
