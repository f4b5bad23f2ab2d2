import java.util.NoSuchElementException;

/** Houses that ask a well, what they were told, and what can be known by it. */
public final class OneAnswer {
    public static final int NONE = -1;

    private static final int UNKNOWN = -2;

    private static final int FINE = 0;
    private static final int NONE_SUCH = 1;
    private static final int WRONG_NUMBER = 2;
    private static final int NO_ROOM = 3;
    private static final int FAULTY = 4;
    private static final int NOT_SO = 5;
    private static final int NOTHING = 6;

    private static final int TAPE_ROOM = 900;
    private static final int FACT_ROOM = 6;
    private static final int WORLD_ROOM = 64;
    private static final int HOUSE_ROOM = 6;
    private static final int QUESTION_ROOM = 8;
    private static final int ANSWER_ROOM = 20;
    private static final int IMAGE_ROOM = 3;
    private static final int LAST_YEAR = 999;
    private static final int LAST_INDEX = 99;
    private static final int SEEDS = 65537;

    private Well well = new Well();
    // A text is read into the spare one, so that a faulty text leaves the well as it was.
    private Well spare = new Well();
    private final Tape tape = new Tape();
    private final Reader reader = new Reader(tape, spare);
    private final Plan plan = new Plan(well.land);
    private final Acts acts = new Acts();
    private final Told[] images = {new Told(), new Told(), new Told()};
    private boolean hasWell;
    private int imageCount;
    private int latestTrouble;
    private int latestFault;
    private int faultPlace;

    /** There is no well yet. */
    public OneAnswer() {
    }

    // ---- the well

    public int feed(int a, int b, int c, int d, int e) {
        if (tape.size > TAPE_ROOM - 20) {
            return NONE;
        }
        tape.put(a);
        tape.put(b);
        tape.put(c);
        tape.put(d);
        tape.put(e);
        return tape.size;
    }

    public int well(int n) {
        if (n < 0 || n > tape.size) {
            return refuse(WRONG_NUMBER);
        }
        reader.read(spare, n);
        tape.size = 0;
        latestFault = reader.fault;
        faultPlace = reader.place;
        if (latestFault != 0) {
            return refuse(FAULTY);
        }
        Well old = well;
        well = spare;
        spare = old;
        hasWell = true;
        imageCount = 0;
        acts.clear();
        return answer(well.houses);
    }

    public int fault() {
        return latestFault;
    }

    public int where() {
        return latestTrouble == FAULTY ? faultPlace : NONE;
    }

    // ---- worlds

    public int canBe(int world) {
        if (!isWorld(world)) {
            return refuse(NONE_SUCH);
        }
        return answer(bitOf(well.land.canBe, world));
    }

    public int worlds() {
        if (!hasWell) {
            return refuse(NONE_SUCH);
        }
        return answer(Long.bitCount(well.land.canBe));
    }

    public int odds(int world) {
        if (!isWorld(world)) {
            return refuse(NONE_SUCH);
        }
        return answer(well.land.weight[world]);
    }

    public int isSo(int question, int world) {
        if (!isQuestion(question) || !isWorld(world)) {
            return refuse(NONE_SUCH);
        }
        return answer(bitOf(well.land.soWorlds(question), world));
    }

    public long chance(int question, boolean lower) {
        if (!isQuestion(question)) {
            return refuse(NONE_SUCH);
        }
        return chanceIn(well.land.canBe, question, lower);
    }

    public int alike(int question) {
        if (!isQuestion(question)) {
            return refuse(NONE_SUCH);
        }
        Land land = well.land;
        int bits = 0;
        for (int other = 0; other < land.questions; other++) {
            if (((land.soWorlds(question) ^ land.soWorlds(other)) & land.canBe) == 0) {
                bits |= 1 << other;
            }
        }
        return answer(bits);
    }

    public int implies(int question, int other) {
        if (!isQuestion(question) || !isQuestion(other)) {
            return refuse(NONE_SUCH);
        }
        Land land = well.land;
        long against = land.canBe & land.soWorlds(question) & ~land.soWorlds(other);
        return answer(against == 0 ? 1 : 0);
    }

    // ---- who lies

    public int liars() {
        if (!hasWell) {
            return refuse(NONE_SUCH);
        }
        return answer(well.mind.sets == 0 ? UNKNOWN : well.mind.liars);
    }

    public int sets() {
        if (!hasWell) {
            return refuse(NONE_SUCH);
        }
        return answer(well.mind.sets);
    }

    public int lies(int house) {
        if (!isHouse(house)) {
            return refuse(NONE_SUCH);
        }
        Mind mind = well.mind;
        if (mind.sets == 0) {
            return answer(UNKNOWN);
        }
        return answer(bitOf(mind.inSome, house) + bitOf(mind.inAll, house));
    }

    // ---- what is known

    public int kin(int house) {
        if (!isHouse(house)) {
            return refuse(NONE_SUCH);
        }
        return answer(well.told.kinOf(house));
    }

    public int left(int house) {
        if (!isHouse(house)) {
            return refuse(NONE_SUCH);
        }
        return answer(Long.bitCount(well.mind.worldsOf(house)));
    }

    public int known(int house, int question) {
        if (!isHouse(house) || !isQuestion(question)) {
            return refuse(NONE_SUCH);
        }
        return answer(verdict(well.mind.worldsOf(house), well.land.soWorlds(question)));
    }

    public int fact(int house, int fact) {
        if (!isHouse(house) || fact < 0 || fact >= well.land.facts || fact >= FACT_ROOM) {
            return refuse(NONE_SUCH);
        }
        return answer(verdict(well.mind.worldsOf(house), Land.HOLDS[fact]));
    }

    public int knownByAll(int question) {
        if (!isQuestion(question)) {
            return refuse(NONE_SUCH);
        }
        return answer(verdict(well.mind.worldsOfAll(), well.land.soWorlds(question)));
    }

    public int onlyTogether() {
        if (!hasWell) {
            return refuse(NONE_SUCH);
        }
        Land land = well.land;
        int bits = land.settled(well.mind.worldsOfAll());
        for (int house = 0; house < well.houses; house++) {
            bits &= ~land.settled(well.mind.worldsOf(house));
        }
        return answer(bits);
    }

    public int bestWedding() {
        if (!hasWell) {
            return refuse(NONE_SUCH);
        }
        int most = NONE;
        int pair = UNKNOWN;
        for (int a = 0; a < well.houses; a++) {
            for (int b = a + 1; b < well.houses; b++) {
                int gain = gainOfWedding(a, b);
                if (gain > most) {
                    most = gain;
                    pair = 10 * a + b;
                }
            }
        }
        return answer(pair);
    }

    public int likeliest(int house) {
        if (!isHouse(house)) {
            return refuse(NONE_SUCH);
        }
        return answer(well.land.likeliestOf(well.mind.worldsOf(house)));
    }

    public long chanceOf(int house, int question, boolean lower) {
        if (!isHouse(house) || !isQuestion(question)) {
            return refuse(NONE_SUCH);
        }
        long worlds = well.mind.worldsOf(house);
        if (worlds == 0) {
            return refuse(NOTHING);
        }
        return chanceIn(worlds, question, lower);
    }

    public int wouldKnow(int house, int question, boolean yes) {
        if (!isHouse(house) || !isQuestion(question)) {
            return refuse(NONE_SUCH);
        }
        long worlds = well.mind.worldsOf(house) & well.land.worldsWith(question, yes);
        return answer(worlds == 0 ? UNKNOWN : well.land.settled(worlds));
    }

    public int needless(int house) {
        if (!isHouse(house)) {
            return refuse(NONE_SUCH);
        }
        return answer(well.mind.needlessTo(well.told.kinOf(house)));
    }

    // ---- answers

    public int told(int k, int what) {
        if (!isAnswer(k)) {
            return refuse(NONE_SUCH);
        }
        switch (what) {
            case 0:
                return answer(well.told.house[k]);
            case 1:
                return answer(well.told.question[k]);
            case 2:
                return answer(well.told.yes[k] ? 1 : 0);
            case 3:
                return answer(well.mind.takenBy(k) == 0 ? 1 : 0);
            case 4:
                return answer(well.mind.clashesOf(k, 0));
            default:
                return refuse(NONE_SUCH);
        }
    }

    public int clashes() {
        if (!hasWell) {
            return refuse(NONE_SUCH);
        }
        int pairs = 0;
        for (int k = 0; k < well.told.count; k++) {
            pairs += well.mind.clashesOf(k, k + 1);
        }
        return answer(pairs);
    }

    public int takes(int k) {
        if (!isAnswer(k)) {
            return refuse(NONE_SUCH);
        }
        return answer(well.mind.takenBy(k));
    }

    public int graves(int house) {
        if (!isHouse(house)) {
            return refuse(NONE_SUCH);
        }
        return answer(well.told.yesBy(house));
    }

    // ---- stones

    public int could(int stone) {
        if (!isStone(stone)) {
            return refuse(NONE_SUCH);
        }
        return answer(well.land.askable(stone, well.mind.worldsOfAll()));
    }

    public int surely(int stone) {
        if (!isStone(stone)) {
            return refuse(NONE_SUCH);
        }
        Land land = well.land;
        long worlds = well.mind.worldsOfAll();
        int sought = land.stoneSaysYes(stone) ? 1 : 0;
        int bits = 0;
        for (int question = 0; question < land.questions; question++) {
            if (verdict(worlds, land.soWorlds(question)) == sought) {
                bits |= 1 << question;
            }
        }
        return answer(bits);
    }

    // ---- questions

    public int best(int house) {
        if (!isHouse(house)) {
            return refuse(NONE_SUCH);
        }
        return answer(well.land.bestIn(well.mind.worldsOf(house)));
    }

    public int bestLeft(int house) {
        if (!isHouse(house)) {
            return refuse(NONE_SUCH);
        }
        long worlds = well.mind.worldsOf(house);
        int question = well.land.bestIn(worlds);
        if (!isQuestion(question)) {
            return refuse(NOTHING);
        }
        return answer(well.land.mostLeft(worlds, question));
    }

    public long leftMean(int house, int question, boolean lower) {
        if (!isHouse(house) || !isQuestion(question)) {
            return refuse(NONE_SUCH);
        }
        Land land = well.land;
        long worlds = well.mind.worldsOf(house);
        if (worlds == 0) {
            return refuse(NOTHING);
        }
        long all = land.weightOf(worlds);
        long yes = land.weightOf(worlds & land.soWorlds(question));
        long no = all - yes;
        return inLowestTerms(yes * yes + no * no, all, lower);
    }

    public int tells() {
        if (!hasWell) {
            return refuse(NONE_SUCH);
        }
        long worlds = well.mind.worldsOfAll();
        int fewest = 0;
        int first = UNKNOWN;
        for (int question = 0; question < well.land.questions; question++) {
            int most = well.land.mostAskable(worlds, question);
            if (first == UNKNOWN || most < fewest) {
                fewest = most;
                first = question;
            }
        }
        return answer(first);
    }

    public int fewest(int house, int question) {
        if (!isHouse(house) || !isQuestion(question)) {
            return refuse(NONE_SUCH);
        }
        int price = plan.make(well.land, well.mind.worldsOf(house), question, false);
        return answer(price == Plan.CANNOT ? UNKNOWN : price);
    }

    public int first(int house, int question) {
        if (!isHouse(house) || !isQuestion(question)) {
            return refuse(NONE_SUCH);
        }
        int price = plan.make(well.land, well.mind.worldsOf(house), question, false);
        return answer(price == Plan.CANNOT ? UNKNOWN : plan.opening(price));
    }

    public long mean(int house, int question, boolean lower) {
        if (!isHouse(house) || !isQuestion(question)) {
            return refuse(NONE_SUCH);
        }
        long worlds = well.mind.worldsOf(house);
        int price = plan.make(well.land, worlds, question, true);
        if (price == Plan.CANNOT) {
            return refuse(NOTHING);
        }
        return inLowestTerms(price, well.land.weightOf(worlds), lower);
    }

    // ---- turns

    public int asking(int house, int i) {
        if (!isHouse(house)) {
            return refuse(NONE_SUCH);
        }
        if (i < 0 || i > LAST_INDEX) {
            return refuse(WRONG_NUMBER);
        }
        return answer(well.house[house].yearOfAsking(i));
    }

    public int next(int house) {
        if (!isHouse(house)) {
            return refuse(NONE_SUCH);
        }
        return answer(well.house[house].yearFrom(well.told.now));
    }

    public int turnOf(int i) {
        if (!hasWell) {
            return refuse(NONE_SUCH);
        }
        if (i < 0 || i > LAST_INDEX) {
            return refuse(WRONG_NUMBER);
        }
        return answer(well.houseAtTurn(i));
    }

    public int turnsTo(int year) {
        if (!hasWell) {
            return refuse(NONE_SUCH);
        }
        if (year < 0 || year > LAST_YEAR) {
            return refuse(WRONG_NUMBER);
        }
        return answer(well.turnsUpTo(year));
    }

    public int births(int house, int seed, int n) {
        if (!isHouse(house)) {
            return refuse(NONE_SUCH);
        }
        if (seed < 0 || seed >= SEEDS || n < 0 || n > LAST_INDEX) {
            return refuse(WRONG_NUMBER);
        }
        int askings = 0;
        int draw = seed;
        for (int generation = 0; generation < n; generation++) {
            draw = (75 * draw + 74) % SEEDS;
            askings += draw % 100 < well.house[house].twins ? 2 : 1;
        }
        return answer(askings);
    }

    // ---- acts

    public int ask(int house, int question) {
        return tell(house, question, false);
    }

    public int lie(int house, int question) {
        return tell(house, question, true);
    }

    public boolean wed(int a, int b) {
        if (!isHouse(a) || !isHouse(b) || a == b) {
            refuse(NONE_SUCH);
            return false;
        }
        if (well.told.areWed(a, b)) {
            refuse(NOT_SO);
            return false;
        }
        well.told.marry(a, b);
        acts.keep(Acts.WEDDING, a, b);
        latestTrouble = FINE;
        return true;
    }

    public int years(int n) {
        if (!hasWell) {
            return refuse(NONE_SUCH);
        }
        if (n < 1 || n > 99) {
            return refuse(WRONG_NUMBER);
        }
        if (well.told.now + n > LAST_YEAR) {
            return refuse(NO_ROOM);
        }
        well.told.now += n;
        acts.keep(Acts.YEARS, n, 0);
        return answer(well.told.now);
    }

    public boolean undo() {
        if (!acts.undoIn(well.told)) {
            refuse(NOTHING);
            return false;
        }
        well.mind.findLiars(well.houses);
        latestTrouble = FINE;
        return true;
    }

    public int image() {
        if (!hasWell) {
            return refuse(NONE_SUCH);
        }
        if (imageCount < 0 || imageCount >= IMAGE_ROOM) {
            return refuse(NO_ROOM);
        }
        images[imageCount].copyOf(well.told);
        imageCount++;
        return answer(imageCount - 1);
    }

    public boolean back(int image) {
        if (image < 0 || image >= imageCount || image >= IMAGE_ROOM) {
            refuse(NONE_SUCH);
            return false;
        }
        well.told.copyOf(images[image]);
        well.mind.findLiars(well.houses);
        acts.clear();
        latestTrouble = FINE;
        return true;
    }

    // ---- what is told

    public int led(int i) throws NoSuchElementException {
        int behind = 0;
        for (int k = 0; k < well.told.count; k++) {
            if (well.mind.takenBy(k) == 0) {
                if (behind == i) {
                    return k;
                }
                behind++;
            }
        }
        throw new NoSuchElementException("no such wasted answer");
    }

    public int size(int what) {
        switch (what) {
            case 0:
                return well.land.facts;
            case 1:
                return well.land.laws;
            case 2:
                return well.houses;
            case 3:
                return well.twinsTold;
            case 4:
                return well.land.questions;
            case 5:
                return well.told.count;
            case 6:
                return well.land.stones;
            case 7:
                return well.told.weddings;
            case 8:
                return well.told.now;
            case 9:
                return well.land.truthTold ? 1 : 0;
            case 10:
                return acts.count;
            case 11:
                return imageCount;
            case 12:
                return tape.size;
            default:
                return NONE;
        }
    }

    public int trouble() {
        return latestTrouble;
    }

    // ---- what the calls share

    private int refuse(int number) {
        latestTrouble = number;
        return NONE;
    }

    private int answer(int value) {
        latestTrouble = FINE;
        return value;
    }

    private boolean isWorld(int world) {
        return hasWell && world >= 0 && world < 1 << well.land.facts && world < WORLD_ROOM;
    }

    private boolean isHouse(int house) {
        return house >= 0 && house < well.houses && house < HOUSE_ROOM;
    }

    private boolean isQuestion(int question) {
        return question >= 0 && question < well.land.questions && question < QUESTION_ROOM;
    }

    private boolean isAnswer(int k) {
        return k >= 0 && k < well.told.count && k < ANSWER_ROOM;
    }

    private boolean isStone(int stone) {
        return stone >= 0 && stone < well.land.stones;
    }

    private int gainOfWedding(int a, int b) {
        int kinOfA = well.told.kinOf(a);
        if (bitOf(kinOfA, b) == 1) {
            return NONE;
        }
        Land land = well.land;
        int together = land.settled(well.mind.worldsBy(kinOfA | well.told.kinOf(b)));
        int before = land.settled(well.mind.worldsOf(a)) | land.settled(well.mind.worldsOf(b));
        return Integer.bitCount(together & ~before);
    }

    private int tell(int house, int question, boolean lying) {
        if (!isHouse(house) || !isQuestion(question)) {
            return refuse(NONE_SUCH);
        }
        if (!well.land.truthTold) {
            return refuse(NOTHING);
        }
        if (well.told.count >= ANSWER_ROOM) {
            return refuse(NO_ROOM);
        }
        boolean isTrue = bitOf(well.land.soWorlds(question), well.land.truth) == 1;
        boolean yes = isTrue != lying;
        well.told.add(house, question, yes);
        well.mind.findLiars(well.houses);
        acts.keep(Acts.ANSWER, house, question);
        return answer(yes ? 1 : 0);
    }

    private long chanceIn(long worlds, int question, boolean lower) {
        Land land = well.land;
        return inLowestTerms(land.weightOf(worlds & land.soWorlds(question)), land.weightOf(worlds), lower);
    }

    private long inLowestTerms(long upper, long lower, boolean wantsLower) {
        latestTrouble = FINE;
        long common = commonDivisor(upper, lower);
        if (common == 0) {
            return wantsLower ? 1 : 0;
        }
        return (wantsLower ? lower : upper) / common;
    }

    private static long commonDivisor(long a, long b) {
        // Each second step halves the number, so 200 are more than any long needs.
        for (int step = 0; step < 200 && b != 0; step++) {
            long rest = a % b;
            a = b;
            b = rest;
        }
        return a;
    }

    private static int bitOf(long bits, int place) {
        return (int) (bits >>> place & 1);
    }

    /** Whether something is so in all the worlds, in none of them, or can't be told. */
    private static int verdict(long worlds, long so) {
        if (worlds == 0) {
            return UNKNOWN;
        }
        if ((worlds & ~so) == 0) {
            return 1;
        }
        return (worlds & so) == 0 ? 0 : UNKNOWN;
    }

    /** The bytes that came, and the tokens of the first of them. */
    private static final class Tape {
        static final int END = 0;
        static final int WORD = 1;
        static final int WHOLE = 2;
        static final int BAD = 3;
        // Signs are their own kinds, and words that are no names have one each from here on.
        static final int KEPT = 256;

        // A word is held as the number that its letters' bytes make: words compare as numbers.
        private static final long[] KEPT_WORDS = {
            0x77656c6cL, // well
            0x66616374L, // fact
            0x6c6177L, // law
            0x7472757468L, // truth
            0x686f757365L, // house
            0x7477696eL, // twin
            0x656e6473L, // ends
            0x7175657374696f6eL, // question
            0x746f6c64L, // told
            0x73746f6e65L, // stone
            0x77656473L, // weds
            0x6e6f6e65L, // none
            0x6e6f74L, // not
            0x616e64L, // and
            0x6f72L // or
        };
        private static final int LETTER_ROOM = 8;
        private static final int DIGIT_ROOM = 3;

        private final byte[] bytes = new byte[TAPE_ROOM];
        int size;
        private int end;
        private final int[] kinds = new int[TAPE_ROOM + 1];
        private final int[] places = new int[TAPE_ROOM + 1];
        private final long[] values = new long[TAPE_ROOM + 1];
        private int tokens;
        private int current;
        // The current token's.
        int kind;
        int at;
        long value;

        void put(int number) {
            for (int shift = 24; shift >= 0; shift -= 8) {
                if (size < TAPE_ROOM) {
                    bytes[size] = (byte) (number >>> shift);
                    size++;
                }
            }
        }

        /** Makes tokens of the first n bytes, up to their end or to a byte that begins none. */
        void begin(int n) {
            end = Math.min(n, size);
            tokens = 0;
            boolean good = true;
            int place = 0;
            while (place < end && good) {
                int length = 1;
                if (byteAt(place) != ' ') {
                    length = lengthFrom(place);
                    good = addToken(kindFrom(place, length), place, valueFrom(place, length));
                }
                place += length;
            }
            if (good) {
                addToken(END, end, 0);
            }
            current = NONE;
            advance();
        }

        /** Goes to the next token; the last one stays. */
        void advance() {
            if (current < tokens - 1 && current < TAPE_ROOM) {
                current++;
                kind = kinds[current];
                at = places[current];
                value = values[current];
            }
        }

        boolean isWord(long sought) {
            return kind == WORD && value == sought;
        }

        private boolean addToken(int kindOfToken, int place, long valueOfToken) {
            if (tokens >= 0 && tokens <= TAPE_ROOM) {
                kinds[tokens] = kindOfToken;
                places[tokens] = place;
                values[tokens] = valueOfToken;
                tokens++;
            }
            return kindOfToken != BAD;
        }

        /** How long the token is; one more than there is room for if it is longer. */
        private int lengthFrom(int place) {
            int length = 1;
            if (isLetter(byteAt(place))) {
                while (length <= LETTER_ROOM && isLetter(byteAt(place + length))) {
                    length++;
                }
            } else if (isDigit(byteAt(place))) {
                while (length <= DIGIT_ROOM && isDigit(byteAt(place + length))) {
                    length++;
                }
            }
            return length;
        }

        private long valueFrom(int place, int length) {
            long number = 0;
            for (int i = place; i < place + length; i++) {
                int sign = byteAt(i);
                number = isDigit(sign) ? 10 * number + sign - '0' : number << 8 | sign;
            }
            return number;
        }

        private int kindFrom(int place, int length) {
            int sign = byteAt(place);
            if (isLetter(sign)) {
                return length <= LETTER_ROOM ? kindOfWord(valueFrom(place, length)) : BAD;
            }
            if (isDigit(sign)) {
                return length <= DIGIT_ROOM ? WHOLE : BAD;
            }
            return sign == ';' || sign == ',' || sign == '(' || sign == ')' ? sign : BAD;
        }

        private static int kindOfWord(long word) {
            for (int i = 0; i < KEPT_WORDS.length; i++) {
                if (KEPT_WORDS[i] == word) {
                    return KEPT + i;
                }
            }
            return WORD;
        }

        private int byteAt(int place) {
            return place >= 0 && place < end && place < TAPE_ROOM ? bytes[place] : 0;
        }

        private static boolean isLetter(int sign) {
            return sign >= 'a' && sign <= 'z';
        }

        private static boolean isDigit(int sign) {
            return sign >= '0' && sign <= '9';
        }
    }

    /** Reads a text into a well, up to its first fault. */
    private static final class Reader {
        private static final int FORM = 1;
        private static final int NOT_TOLD = 2;
        private static final int AGAIN = 3;
        private static final int OUT_OF_BOUNDS = 4;
        private static final int MANY = 5;
        private static final int LACKS = 6;
        private static final int CANNOT_BE = 7;

        // What a kept word's kind is above KEPT; the first ones begin lines.
        private static final int WELL = 0;
        private static final int FACT = 1;
        private static final int LAW = 2;
        private static final int TRUTH = 3;
        private static final int HOUSE = 4;
        private static final int TWIN = 5;
        private static final int ENDS = 6;
        private static final int QUESTION = 7;
        private static final int TOLD = 8;
        private static final int STONE = 9;
        private static final int WEDS = 10;
        private static final int LINES = 11;
        private static final int KIND_NONE = Tape.KEPT + 11;
        private static final int KIND_NOT = Tape.KEPT + 12;
        private static final int KIND_AND = Tape.KEPT + 13;
        private static final int KIND_OR = Tape.KEPT + 14;

        private static final long WORD_NOW = 0x6e6f77L;
        private static final long WORD_ODDS = 0x6f646473L;
        private static final long WORD_FIRST = 0x6669727374L;
        private static final long WORD_EACH = 0x65616368L;
        private static final long WORD_TWINS = 0x7477696e73L;
        private static final long WORD_YES = 0x796573L;
        private static final long WORD_NO = 0x6e6fL;

        // Lines of ends have no bound of their own: a house that ends twice is another fault.
        private static final int[] LINE_ROOM = {1, 6, 6, 1, 6, 6, 1000, 8, 12, 4, 8};
        private static final int NAME_ROOM = FACT_ROOM + HOUSE_ROOM + QUESTION_ROOM;
        private static final int BRACKET_ROOM = 8;
        private static final int FORMULA_ROOM = 12;

        private final Tape tape;
        private Well well;
        int fault;
        int place;
        private final int[] lines = new int[LINES];
        private final long[] name = new long[NAME_ROOM];
        private final int[] sort = new int[NAME_ROOM];
        private final int[] number = new int[NAME_ROOM];
        private int names;
        // A formula's brackets that are open, and at each level the terms that have ended, the
        // one that goes on, and whether its next factor is turned round.
        private int open;
        private final long[] terms = new long[BRACKET_ROOM + 1];
        private final long[] term = new long[BRACKET_ROOM + 1];
        private final boolean[] turned = new boolean[BRACKET_ROOM + 1];
        private int factsInFormula;

        Reader(Tape tape, Well well) {
            this.tape = tape;
            this.well = well;
        }

        void read(Well target, int n) {
            well = target;
            well.clear();
            fault = 0;
            place = 0;
            names = 0;
            for (int line = 0; line < LINES; line++) {
                lines[line] = 0;
            }
            tape.begin(n);
            boolean more = true;
            for (int i = 0; i <= TAPE_ROOM && more; i++) {
                more = readLine(i == 0) && goesOn();
            }
            if (fault == 0 && (well.land.facts == 0 || well.houses == 0)) {
                fail(LACKS, tape.at);
            }
            if (fault == 0) {
                well.close();
            }
        }

        private boolean fail(int faultNumber, int at) {
            if (fault == 0) {
                fault = faultNumber;
                place = at;
            }
            return false;
        }

        private boolean goesOn() {
            if (tape.kind == Tape.END) {
                return false;
            }
            if (tape.kind != ';') {
                return fail(FORM, tape.at);
            }
            tape.advance();
            return true;
        }

        private boolean readLine(boolean isFirst) {
            int at = tape.at;
            int line = tape.kind - Tape.KEPT;
            if (!mayBegin(line, isFirst)) {
                return false;
            }
            tape.advance();
            switch (line) {
                case WELL:
                    return readWell();
                case FACT:
                    return readFact();
                case LAW:
                    return readLaw(at);
                case TRUTH:
                    return readTruth(at);
                case HOUSE:
                    return readHouse();
                case TWIN:
                    return readTwin();
                case ENDS:
                    return readEnds();
                case QUESTION:
                    return readQuestion();
                case TOLD:
                    return readTold();
                case STONE:
                    return readStone();
                case WEDS:
                    return readWeds();
                default:
                    return false;
            }
        }

        private boolean mayBegin(int line, boolean isFirst) {
            if (line < 0 || line >= LINES) {
                return fail(FORM, tape.at);
            }
            if (isFirst && line != WELL) {
                return fail(LACKS, tape.at);
            }
            lines[line]++;
            if (lines[line] > LINE_ROOM[line]) {
                return fail(line == WELL || line == TRUTH ? AGAIN : MANY, tape.at);
            }
            return true;
        }

        private boolean readWell() {
            if (!takeWord(WORD_NOW)) {
                return false;
            }
            well.told.now = takeWhole(0, LAST_YEAR);
            return fault == 0;
        }

        private boolean readFact() {
            int fact = well.land.facts;
            if (fact >= FACT_ROOM || !takeNewName(FACT, fact) || !takeWord(WORD_ODDS)) {
                return false;
            }
            well.land.tenths[fact] = takeWhole(1, 9);
            well.land.facts++;
            return fault == 0;
        }

        private boolean readLaw(int at) {
            long so = formula();
            if (fault != 0) {
                return false;
            }
            well.land.canBe &= so;
            well.land.laws++;
            return well.land.stands() || fail(CANNOT_BE, at);
        }

        private boolean readTruth(int at) {
            if (tape.kind == KIND_NONE) {
                tape.advance();
            } else if (!readTruthNames()) {
                return false;
            }
            well.land.truthTold = true;
            return well.land.stands() || fail(CANNOT_BE, at);
        }

        private boolean readTruthNames() {
            for (int i = 0; i <= FACT_ROOM; i++) {
                int at = tape.at;
                int fact = takeName(FACT);
                if (fact < 0) {
                    return false;
                }
                if (bitOf(well.land.truth, fact) == 1) {
                    return fail(AGAIN, at);
                }
                well.land.truth |= 1 << fact;
                if (tape.kind != ',') {
                    return true;
                }
                tape.advance();
            }
            return false;
        }

        private boolean readHouse() {
            int house = well.houses;
            if (house >= HOUSE_ROOM || !takeNewName(HOUSE, house) || !takeWord(WORD_FIRST)) {
                return false;
            }
            well.house[house].first = takeWhole(0, LAST_YEAR);
            if (fault != 0 || !takeWord(WORD_EACH)) {
                return false;
            }
            well.house[house].each = takeWhole(1, 99);
            if (fault != 0 || !takeWord(WORD_TWINS)) {
                return false;
            }
            well.house[house].twins = takeWhole(0, 99);
            well.houses++;
            return fault == 0;
        }

        private boolean readTwin() {
            int house = takeName(HOUSE);
            if (house < 0 || house >= HOUSE_ROOM) {
                return false;
            }
            int at = tape.at;
            int generation = takeWhole(0, House.LAST_TWIN);
            if (fault != 0) {
                return false;
            }
            if (bitOf(well.house[house].twinBits, generation) == 1) {
                return fail(AGAIN, at);
            }
            well.house[house].twinBits |= 1 << generation;
            well.twinsTold++;
            return true;
        }

        private boolean readEnds() {
            int at = tape.at;
            int house = takeName(HOUSE);
            if (house < 0 || house >= HOUSE_ROOM) {
                return false;
            }
            if (well.house[house].end != NONE) {
                return fail(AGAIN, at);
            }
            well.house[house].end = takeWhole(0, LAST_YEAR);
            return fault == 0;
        }

        private boolean readQuestion() {
            int question = well.land.questions;
            if (question >= QUESTION_ROOM || !takeNewName(QUESTION, question)) {
                return false;
            }
            well.land.addQuestion(formula());
            return fault == 0;
        }

        private boolean readTold() {
            int house = takeName(HOUSE);
            if (house < 0) {
                return false;
            }
            int question = takeName(QUESTION);
            if (question < 0) {
                return false;
            }
            boolean yes = takeYes();
            if (fault != 0) {
                return false;
            }
            well.told.add(house, question, yes);
            return true;
        }

        private boolean readStone() {
            if (takeYes()) {
                well.land.stoneBits |= 1 << well.land.stones;
            }
            well.land.stones++;
            return fault == 0;
        }

        private boolean readWeds() {
            int house = takeName(HOUSE);
            if (house < 0) {
                return false;
            }
            int at = tape.at;
            int other = takeName(HOUSE);
            if (other < 0) {
                return false;
            }
            if (other == house || well.told.areWed(house, other)) {
                return fail(AGAIN, at);
            }
            well.told.marry(house, other);
            return true;
        }

        /** The worlds in which a formula is so, of all worlds that six facts make. */
        private long formula() {
            open = 0;
            factsInFormula = 0;
            beginLevel();
            boolean more = true;
            for (int i = 0; i <= TAPE_ROOM && more; i++) {
                more = readOpening() && readFactInFormula() && readClosing();
            }
            return soAtLevel();
        }

        private boolean isLevel() {
            return open >= 0 && open <= BRACKET_ROOM;
        }

        private void beginLevel() {
            if (isLevel()) {
                terms[open] = 0;
                term[open] = -1L;
                turned[open] = false;
            }
        }

        /** Reads what stands ahead of a fact; false at a fault. */
        private boolean readOpening() {
            for (int i = 0; i <= TAPE_ROOM && (tape.kind == '(' || tape.kind == KIND_NOT); i++) {
                if (tape.kind == KIND_NOT) {
                    turnNextFactor();
                } else if (open >= BRACKET_ROOM) {
                    return fail(MANY, tape.at);
                } else {
                    open++;
                    beginLevel();
                }
                tape.advance();
            }
            return true;
        }

        private boolean readFactInFormula() {
            int at = tape.at;
            int fact = takeName(FACT);
            if (fact < 0 || fact >= FACT_ROOM) {
                return false;
            }
            factsInFormula++;
            if (factsInFormula > FORMULA_ROOM) {
                return fail(MANY, at);
            }
            joinFactor(Land.HOLDS[fact]);
            return true;
        }

        private void turnNextFactor() {
            if (isLevel()) {
                turned[open] = !turned[open];
            }
        }

        private void joinFactor(long so) {
            if (isLevel()) {
                term[open] &= turned[open] ? ~so : so;
                turned[open] = false;
            }
        }

        private void beginTerm() {
            if (isLevel()) {
                terms[open] |= term[open];
                term[open] = -1L;
            }
        }

        private long soAtLevel() {
            return isLevel() ? terms[open] | term[open] : 0;
        }

        /** Reads what stands behind a fact; false if no factor follows. */
        private boolean readClosing() {
            for (int i = 0; i < BRACKET_ROOM && open > 0 && tape.kind == ')'; i++) {
                long so = soAtLevel();
                open--;
                joinFactor(so);
                tape.advance();
            }
            if (tape.kind == KIND_OR) {
                beginTerm();
            } else if (tape.kind != KIND_AND) {
                return open > 0 && fail(FORM, tape.at);
            }
            tape.advance();
            return true;
        }

        private boolean takeWord(long sought) {
            if (!tape.isWord(sought)) {
                return fail(FORM, tape.at);
            }
            tape.advance();
            return true;
        }

        private boolean takeYes() {
            boolean yes = tape.isWord(WORD_YES);
            return takeWord(yes ? WORD_YES : WORD_NO) && yes;
        }

        private int takeWhole(int least, int greatest) {
            if (tape.kind != Tape.WHOLE) {
                fail(FORM, tape.at);
                return NONE;
            }
            int whole = (int) tape.value;
            if (whole < least || whole > greatest) {
                fail(OUT_OF_BOUNDS, tape.at);
                return NONE;
            }
            tape.advance();
            return whole;
        }

        private boolean takeNewName(int sortOfName, int numberOfName) {
            if (tape.kind != Tape.WORD) {
                return fail(FORM, tape.at);
            }
            if (findName() != NONE) {
                return fail(AGAIN, tape.at);
            }
            if (names >= NAME_ROOM) {
                return fail(MANY, tape.at);
            }
            name[names] = tape.value;
            sort[names] = sortOfName;
            number[names] = numberOfName;
            names++;
            tape.advance();
            return true;
        }

        private int takeName(int sortOfName) {
            if (tape.kind != Tape.WORD) {
                fail(FORM, tape.at);
                return NONE;
            }
            int found = findName();
            if (found < 0 || found >= NAME_ROOM || sort[found] != sortOfName) {
                fail(NOT_TOLD, tape.at);
                return NONE;
            }
            tape.advance();
            return number[found];
        }

        private int findName() {
            for (int i = 0; i < names && i < NAME_ROOM; i++) {
                if (name[i] == tape.value) {
                    return i;
                }
            }
            return NONE;
        }
    }

    /** What a text tells, and what acts have told since. */
    private static final class Well {
        final Land land = new Land();
        final Told told = new Told();
        final Mind mind = new Mind(land, told);
        final House[] house = {
            new House(), new House(), new House(), new House(), new House(), new House()
        };
        int houses;
        int twinsTold;
        private final int[] generation = new int[HOUSE_ROOM];

        void clear() {
            land.clear();
            told.clear();
            houses = 0;
            twinsTold = 0;
            for (int i = 0; i < HOUSE_ROOM; i++) {
                house[i].clear();
            }
        }

        void close() {
            land.close();
            mind.findLiars(houses);
        }

        int houseAtTurn(int turn) {
            for (int i = 0; i < HOUSE_ROOM; i++) {
                generation[i] = 0;
            }
            int ahead = turn;
            for (int step = 0; step <= turn; step++) {
                int earliest = earliestHouse();
                if (earliest < 0 || earliest >= HOUSE_ROOM) {
                    return UNKNOWN;
                }
                ahead -= house[earliest].askingsOf(generation[earliest]);
                if (ahead < 0) {
                    return earliest;
                }
                generation[earliest]++;
            }
            return UNKNOWN;
        }

        int turnsUpTo(int year) {
            int turns = 0;
            for (int i = 0; i < houses && i < HOUSE_ROOM; i++) {
                turns += house[i].askingsTo(year);
            }
            return turns;
        }

        private int earliestHouse() {
            int earliest = NONE;
            int least = 0;
            for (int i = 0; i < houses && i < HOUSE_ROOM; i++) {
                int year = house[i].yearOf(generation[i]);
                if (year != UNKNOWN && (earliest == NONE || year < least)) {
                    earliest = i;
                    least = year;
                }
            }
            return earliest;
        }
    }

    /** Facts, laws, truth, questions and stones: sets of worlds are bits of a long. */
    private static final class Land {
        // Of each fact the worlds, of those of six facts, in which it holds.
        static final long[] HOLDS = {
            0xaaaaaaaaaaaaaaaaL, 0xccccccccccccccccL, 0xf0f0f0f0f0f0f0f0L,
            0xff00ff00ff00ff00L, 0xffff0000ffff0000L, 0xffffffff00000000L
        };

        int facts;
        final int[] tenths = new int[FACT_ROOM];
        int laws;
        long canBe;
        boolean truthTold;
        int truth;
        int questions;
        private final long[] so = new long[QUESTION_ROOM];
        int stones;
        int stoneBits;
        final int[] weight = new int[WORLD_ROOM];

        void clear() {
            facts = 0;
            laws = 0;
            canBe = -1L;
            truthTold = false;
            truth = 0;
            questions = 0;
            stones = 0;
            stoneBits = 0;
        }

        void close() {
            int worlds = 1 << facts;
            if (worlds < WORLD_ROOM) {
                canBe &= (1L << worlds) - 1;
            }
            for (int world = 0; world < worlds && world < WORLD_ROOM; world++) {
                weight[world] = product(world);
            }
        }

        /** Whether some world, and the truth if it is told, can be. */
        boolean stands() {
            return truthTold ? bitOf(canBe, truth) == 1 : canBe != 0;
        }

        private int product(int world) {
            int product = 1;
            for (int fact = 0; fact < facts && fact < FACT_ROOM; fact++) {
                product *= bitOf(world, fact) == 1 ? tenths[fact] : 10 - tenths[fact];
            }
            return product;
        }

        int weightOf(long worlds) {
            int sum = 0;
            long rest = worlds & canBe;
            // Plans weigh many small sets: only the worlds that are there are looked at.
            for (int i = 0; i < WORLD_ROOM && rest != 0; i++) {
                int world = Long.bitCount((rest & -rest) - 1);
                if (world < WORLD_ROOM) {
                    sum += weight[world];
                }
                rest &= rest - 1;
            }
            return sum;
        }

        int likeliestOf(long worlds) {
            int likeliest = UNKNOWN;
            int most = 0;
            for (int world = 0; world < WORLD_ROOM; world++) {
                if (bitOf(worlds, world) == 1 && weight[world] > most) {
                    most = weight[world];
                    likeliest = world;
                }
            }
            return likeliest;
        }

        void addQuestion(long worlds) {
            if (questions >= 0 && questions < QUESTION_ROOM) {
                so[questions] = worlds;
                questions++;
            }
        }

        long soWorlds(int question) {
            return question >= 0 && question < QUESTION_ROOM ? so[question] : 0;
        }

        long worldsWith(int question, boolean yes) {
            return canBe & (yes ? soWorlds(question) : ~soWorlds(question));
        }

        /** The questions that are known, yes or no, by these worlds. */
        int settled(long worlds) {
            int bits = 0;
            for (int question = 0; question < questions; question++) {
                if (verdict(worlds, soWorlds(question)) != UNKNOWN) {
                    bits |= 1 << question;
                }
            }
            return bits;
        }

        boolean stoneSaysYes(int stone) {
            return bitOf(stoneBits, stone) == 1;
        }

        /** The questions that a stone could have answered, by these worlds. */
        int askable(int stone, long worlds) {
            int bits = 0;
            for (int question = 0; question < questions; question++) {
                if ((worlds & worldsWith(question, stoneSaysYes(stone))) != 0) {
                    bits |= 1 << question;
                }
            }
            return bits;
        }

        int mostAskable(long worlds, int question) {
            return Math.max(askableOfAll(worlds & worldsWith(question, true)),
                askableOfAll(worlds & worldsWith(question, false)));
        }

        private int askableOfAll(long worlds) {
            int sum = 0;
            for (int stone = 0; stone < stones; stone++) {
                sum += Integer.bitCount(askable(stone, worlds));
            }
            return sum;
        }

        int bestIn(long worlds) {
            int best = UNKNOWN;
            int fewest = 0;
            for (int question = 0; question < questions; question++) {
                int most = mostLeft(worlds, question);
                if (best == UNKNOWN || most < fewest) {
                    best = question;
                    fewest = most;
                }
            }
            return best;
        }

        int mostLeft(long worlds, int question) {
            return Math.max(weightOf(worlds & worldsWith(question, true)),
                weightOf(worlds & worldsWith(question, false)));
        }
    }

    /** When a house asks. */
    private static final class House {
        static final int LAST_TWIN = 30;

        int first;
        int each;
        int twins;
        int twinBits;
        int end;

        void clear() {
            first = 0;
            each = 1;
            twins = 0;
            twinBits = 0;
            end = NONE;
        }

        int askingsOf(int generation) {
            return generation >= 0 && generation <= LAST_TWIN ? 1 + bitOf(twinBits, generation) : 1;
        }

        int yearOf(int generation) {
            int year = first + generation * each;
            return end != NONE && year >= end ? UNKNOWN : year;
        }

        int yearOfAsking(int asking) {
            int ahead = asking;
            for (int generation = 0; generation <= asking; generation++) {
                ahead -= askingsOf(generation);
                if (ahead < 0) {
                    return yearOf(generation);
                }
            }
            return UNKNOWN;
        }

        int yearFrom(int now) {
            if (first >= now || each < 1) {
                return yearOf(0);
            }
            return yearOf((now - first + each - 1) / each);
        }

        int askingsTo(int year) {
            int last = end != NONE && end <= year ? end - 1 : year;
            if (last < first || each < 1) {
                return 0;
            }
            int generations = (last - first) / each + 1;
            int twinsBefore = generations > LAST_TWIN ? twinBits : twinBits & (1 << generations) - 1;
            return generations + Integer.bitCount(twinsBefore);
        }
    }

    /** What acts can change: answers, weddings, the year. */
    private static final class Told {
        int count;
        final int[] house = new int[ANSWER_ROOM];
        final int[] question = new int[ANSWER_ROOM];
        final boolean[] yes = new boolean[ANSWER_ROOM];
        private final int[] wedTo = new int[HOUSE_ROOM];
        int weddings;
        int now;

        void clear() {
            count = 0;
            weddings = 0;
            now = 0;
            for (int i = 0; i < HOUSE_ROOM; i++) {
                wedTo[i] = 0;
            }
        }

        void copyOf(Told other) {
            count = other.count;
            weddings = other.weddings;
            now = other.now;
            for (int k = 0; k < ANSWER_ROOM; k++) {
                house[k] = other.house[k];
                question[k] = other.question[k];
                yes[k] = other.yes[k];
            }
            for (int i = 0; i < HOUSE_ROOM; i++) {
                wedTo[i] = other.wedTo[i];
            }
        }

        void add(int byHouse, int toQuestion, boolean saysYes) {
            if (count < 0 || count >= ANSWER_ROOM) {
                return;
            }
            house[count] = byHouse;
            question[count] = toQuestion;
            yes[count] = saysYes;
            count++;
        }

        int yesBy(int ofHouse) {
            int many = 0;
            for (int k = 0; k < count && k < ANSWER_ROOM; k++) {
                if (house[k] == ofHouse && yes[k]) {
                    many++;
                }
            }
            return many;
        }

        boolean areWed(int a, int b) {
            return a >= 0 && a < HOUSE_ROOM && bitOf(wedTo[a], b) == 1;
        }

        void marry(int a, int b) {
            if (!areWed(a, b)) {
                turnWedding(a, b);
                weddings++;
            }
        }

        void unwed(int a, int b) {
            if (areWed(a, b)) {
                turnWedding(a, b);
                weddings--;
            }
        }

        private void turnWedding(int a, int b) {
            if (a >= 0 && a < HOUSE_ROOM && b >= 0 && b < HOUSE_ROOM) {
                wedTo[a] ^= 1 << b;
                wedTo[b] ^= 1 << a;
            }
        }

        int kinOf(int one) {
            int kin = 1 << one;
            // A chain of weddings from one house to another has fewer steps than there are houses.
            for (int step = 1; step < HOUSE_ROOM; step++) {
                for (int i = 0; i < HOUSE_ROOM; i++) {
                    if (bitOf(kin, i) == 1) {
                        kin |= wedTo[i];
                    }
                }
            }
            return kin;
        }
    }

    /** Who lies, and which worlds are left by whose answers. */
    private static final class Mind {
        private static final int ALL_HOUSES = -1;

        private final Land land;
        private final Told told;
        private final long[] straight = new long[HOUSE_ROOM];
        private final long[] turned = new long[HOUSE_ROOM];
        int liars;
        int sets;
        int inSome;
        int inAll;

        Mind(Land land, Told told) {
            this.land = land;
            this.told = told;
        }

        /** To be called whenever the answers have changed: what is known rests on who lies. */
        void findLiars(int houses) {
            gatherAnswers();
            liars = 0;
            sets = 0;
            inSome = 0;
            inAll = 0;
            int fewest = HOUSE_ROOM + 1;
            for (int set = 0; set < 1 << houses; set++) {
                if (worldsIfLying(set, houses) != 0) {
                    sets++;
                    int many = Integer.bitCount(set);
                    if (many < fewest) {
                        fewest = many;
                        liars = set;
                        inSome = set;
                        inAll = set;
                    } else if (many == fewest) {
                        inSome |= set;
                        inAll &= set;
                    }
                }
            }
        }

        private void gatherAnswers() {
            for (int house = 0; house < HOUSE_ROOM; house++) {
                straight[house] = land.canBe;
                turned[house] = land.canBe;
            }
            for (int k = 0; k < told.count && k < ANSWER_ROOM; k++) {
                int house = told.house[k];
                if (house >= 0 && house < HOUSE_ROOM) {
                    straight[house] &= land.worldsWith(told.question[k], told.yes[k]);
                    turned[house] &= land.worldsWith(told.question[k], !told.yes[k]);
                }
            }
        }

        private long worldsIfLying(int set, int houses) {
            long worlds = land.canBe;
            for (int house = 0; house < houses && house < HOUSE_ROOM; house++) {
                worlds &= bitOf(set, house) == 1 ? turned[house] : straight[house];
            }
            return worlds;
        }

        private long worldsAsTold(int k) {
            if (k < 0 || k >= ANSWER_ROOM) {
                return land.canBe;
            }
            return land.worldsWith(told.question[k], told.yes[k]);
        }

        /** The worlds that an answer leaves, turned round if its house is a liar. */
        private long worldsByAnswer(int k) {
            if (k < 0 || k >= ANSWER_ROOM) {
                return land.canBe;
            }
            boolean lying = bitOf(liars, told.house[k]) == 1;
            return land.worldsWith(told.question[k], told.yes[k] != lying);
        }

        long worldsOf(int house) {
            return worldsWithout(NONE, told.kinOf(house));
        }

        long worldsOfAll() {
            return worldsWithout(NONE, ALL_HOUSES);
        }

        long worldsBy(int houses) {
            return worldsWithout(NONE, houses);
        }

        private long worldsWithout(int leftOut, int houses) {
            long worlds = land.canBe;
            for (int k = 0; k < told.count && k < ANSWER_ROOM; k++) {
                if (k != leftOut && bitOf(houses, told.house[k]) == 1) {
                    worlds &= worldsByAnswer(k);
                }
            }
            return worlds;
        }

        int needlessTo(int houses) {
            long worlds = worldsBy(houses);
            int bits = 0;
            for (int k = 0; k < told.count && k < ANSWER_ROOM; k++) {
                if (bitOf(houses, told.house[k]) == 1 && worldsWithout(k, houses) == worlds) {
                    bits |= 1 << k;
                }
            }
            return bits;
        }

        /** How many worlds go by an answer, of those that all told ahead of it leave. */
        int takenBy(int k) {
            long worlds = land.canBe;
            for (int ahead = 0; ahead < k && ahead < told.count; ahead++) {
                worlds &= worldsByAnswer(ahead);
            }
            return Long.bitCount(worlds & ~worldsByAnswer(k));
        }

        /** How many of the answers from one on clash with an answer. */
        int clashesOf(int k, int from) {
            int clashes = 0;
            for (int other = from; other < told.count; other++) {
                if (other != k && (worldsAsTold(k) & worldsAsTold(other)) == 0) {
                    clashes++;
                }
            }
            return clashes;
        }
    }

    /** The cheapest way to ask until one question is known. */
    private static final class Plan {
        static final int CANNOT = 1000000000;
        private static final int OTHERS = QUESTION_ROOM - 1;
        // Each other question is not asked yet, answered yes, or answered no: 3 to the seventh states.
        private static final int STATES = 2187;

        private Land land;
        private long sought;
        private boolean byMean;
        private long begin;
        private final long[] so = new long[OTHERS];
        private final int[] number = new int[OTHERS];
        private int others;
        private final int[] price = new int[STATES];
        // A price counts only in the round in which it was found, so that none need be wiped.
        private final int[] round = new int[STATES];
        private int thisRound;
        // Two worlds that no question parts stay together whatever is asked: then no plan will do.
        private boolean hopeless;

        Plan(Land land) {
            this.land = land;
        }

        /** The fewest questions, or of the mean what they cost by odds; CANNOT if none are enough. */
        int make(Land ofLand, long worlds, int question, boolean mean) {
            land = ofLand;
            byMean = mean;
            begin = worlds;
            thisRound++;
            hopeless = false;
            others = 0;
            for (int i = 0; i < land.questions && i < QUESTION_ROOM; i++) {
                if (i == question) {
                    sought = land.soWorlds(i);
                } else if (others < OTHERS) {
                    so[others] = land.soWorlds(i);
                    number[others] = i;
                    others++;
                }
            }
            return priceOf(begin, 0, 0);
        }

        /** The first question with which a plan of so few questions can begin. */
        int opening(int whole) {
            int step = 1;
            for (int i = 0; i < others && i < OTHERS && whole > 0; i++) {
                if (priceBehind(i, begin, step, 0, 0) == whole - 1) {
                    return number[i];
                }
                step *= 3;
            }
            return UNKNOWN;
        }

        private int priceOf(long worlds, int state, int asked) {
            if (verdict(worlds, sought) != UNKNOWN) {
                return 0;
            }
            if (hopeless || asked > OTHERS || state < 0 || state >= STATES) {
                return CANNOT;
            }
            if (round[state] == thisRound) {
                return price[state];
            }
            int least = CANNOT;
            int step = 1;
            for (int i = 0; i < others && least > 0; i++) {
                least = Math.min(least, priceBehind(i, worlds, step, state, asked));
                step *= 3;
            }
            if (least == CANNOT) {
                hopeless = true;
                return CANNOT;
            }
            least += byMean ? land.weightOf(worlds) : 1;
            round[state] = thisRound;
            price[state] = least;
            return least;
        }

        /** What is still to pay behind a question if it is asked next. */
        private int priceBehind(int i, long worlds, int step, int state, int asked) {
            if (i < 0 || i >= OTHERS) {
                return CANNOT;
            }
            long yes = worlds & so[i];
            long no = worlds & ~so[i];
            // A question that is known already tells nothing: one that was asked is known, too.
            if (yes == 0 || no == 0) {
                return CANNOT;
            }
            int ifYes = priceOf(yes, state + step, asked + 1);
            int ifNo = priceOf(no, state + 2 * step, asked + 1);
            if (hopeless) {
                return CANNOT;
            }
            return byMean ? ifYes + ifNo : Math.max(ifYes, ifNo);
        }
    }

    /** The latest acts, each with what it takes to undo it. */
    private static final class Acts {
        static final int ANSWER = 0;
        static final int WEDDING = 1;
        static final int YEARS = 2;
        private static final int ROOM = 12;

        private final int[] kind = new int[ROOM];
        private final int[] one = new int[ROOM];
        private final int[] other = new int[ROOM];
        int count;

        void clear() {
            count = 0;
        }

        void keep(int act, int a, int b) {
            if (count >= ROOM) {
                dropOldest();
            }
            if (count < 0 || count >= ROOM) {
                return;
            }
            kind[count] = act;
            one[count] = a;
            other[count] = b;
            count++;
        }

        private void dropOldest() {
            for (int i = 1; i < ROOM; i++) {
                kind[i - 1] = kind[i];
                one[i - 1] = one[i];
                other[i - 1] = other[i];
            }
            count = ROOM - 1;
        }

        boolean undoIn(Told told) {
            if (count < 1 || count > ROOM) {
                return false;
            }
            count--;
            if (kind[count] == ANSWER) {
                told.count--;
            } else if (kind[count] == WEDDING) {
                told.unwed(one[count], other[count]);
            } else {
                told.now -= one[count];
            }
            return true;
        }
    }
}
