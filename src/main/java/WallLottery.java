import java.util.NoSuchElementException;

/** A lottery of neighbours: a town told in a language, its years by hand, and what may be known of them. */
public final class WallLottery {
    public static final int NONE = -1;

    /** What some calls answer where NONE itself is an answer or an argument. */
    private static final int OUT = -2;

    private static final int MOST_HOUSES = 6;
    private static final int MOST_CUSTOMS = 4;
    private static final int MOST_SIGNS = 1000;
    private static final int MOST_LINES = 24;
    private static final int MOST_TALES = 10;
    private static final int MOST_UNDONE = 16;
    private static final int MOST_WAYS = 720;
    private static final int MOST_COINS = 999;
    private static final int MOST_SEED = 9999;
    private static final int MOST_FAIR_DRAWS = 6;
    private static final int MOST_CENTURIES = 60;
    private static final int MARKS = 4;
    private static final int MILLION = 1000000;

    private static final int FIDDLER = 1;
    private static final int SLEEPER = 2;
    private static final int LAWYER = 3;

    private static final int CANT_STAND = 1;
    private static final int NOT_TOLD = 2;
    private static final int TOLD_ALREADY = 3;
    private static final int BAD_NUMBER = 4;
    private static final int TOO_MANY = 5;

    private static final Word[] WORDS = Word.values();

    private final Tape tape = new Tape();
    private final Tokens tokens = new Tokens(tape);
    private final Reader reader = new Reader(tokens);
    private final Ways ways = new Ways();
    private final Dice dice = new Dice();
    private final Tales tales = new Tales();
    private final Life now = new Life();
    private final Life trial = new Life();
    private final Life[] past = new Life[MOST_UNDONE];
    private final Life[] markedLife = new Life[MARKS];
    private final Tales[] markedTales = new Tales[MARKS];
    private final boolean[] laid = new boolean[MARKS];

    // A text with a FAULT must change nothing: it is read into the spare one, which then takes the other's place.
    private Town land = new Town();
    private Town spareLand = new Town();
    private Days plan = new Days();
    private Days sparePlan = new Days();

    private int pastEnd;
    private int pastSize;

    public WallLottery() {
        for (int i = 0; i < MOST_UNDONE; i++) {
            past[i] = new Life();
        }
        for (int i = 0; i < MARKS; i++) {
            markedLife[i] = new Life();
            markedTales[i] = new Tales();
        }
    }

    public int feed(long a, long b, long c) {
        tape.addBytes(a);
        tape.addBytes(b);
        tape.addBytes(c);
        return tape.length;
    }

    public int town() {
        int fault = reader.readTown(spareLand);
        tape.length = 0;
        if (fault == 0) {
            Town old = land;
            land = spareLand;
            spareLand = old;
            startAnew();
        }
        return fault;
    }

    public int days() {
        int fault = reader.readDays(land, sparePlan);
        tape.length = 0;
        if (fault == 0) {
            Days old = plan;
            plan = sparePlan;
            sparePlan = old;
        }
        return fault;
    }

    public int house(int house) {
        return land.familyIn(now.home, house);
    }

    public int wall(int one, int other) {
        if (!isHouse(one) || !isHouse(other)) {
            return NONE;
        }
        int thick = land.bricks[one * MOST_HOUSES + other];
        return thick == 0 ? NONE : thick;
    }

    public int family(int family, int what) {
        if (!isFamily(family)) {
            return NONE;
        }
        switch (what) {
            case 0: return land.kinds[family];
            case 1: return land.loudness(family);
            case 2: return land.hearing(family);
            case 3: return now.coins[family];
            case 4: return now.home[family];
            case 5: return land.neighbourBits(now.home, family);
            case 6: return land.feltBy(now.home, family);
            case 7: return land.joyOf(now.home, family) >= 0 ? 1 : 0;
            default: return NONE;
        }
    }

    public int joy(int family) throws NoSuchElementException {
        if (!isFamily(family)) {
            throw new NoSuchElementException();
        }
        return land.joyOf(now.home, family);
    }

    public int owes(int family, int other) {
        return areTwo(family, other) ? now.debts[family * MOST_HOUSES + other] : NONE;
    }

    public int draw(int seed) {
        if (!isSeed(seed)) {
            return NONE;
        }
        remember();
        dice.seed = seed;
        return now.redraw(land, dice);
    }

    public boolean swap(int family, int other) {
        if (!areTwo(family, other)) {
            return false;
        }
        remember();
        now.changeHouses(family, other);
        return true;
    }

    public boolean lend(int family, int other, int coins) {
        if (!areTwo(family, other) || !isSum(coins) || !now.canLend(land, family, other, coins)) {
            return false;
        }
        remember();
        now.giveLoan(family, other, coins);
        return true;
    }

    public boolean pay(int family, int other, int coins) {
        if (!areTwo(family, other) || !isSum(coins) || !now.canPay(family, other, coins)) {
            return false;
        }
        remember();
        now.payBack(family, other, coins);
        return true;
    }

    public boolean undo() {
        if (pastSize < 1) {
            return false;
        }
        pastSize--;
        pastEnd = (pastEnd + MOST_UNDONE - 1) % MOST_UNDONE;
        now.become(past[pastEnd]);
        return true;
    }

    public int judged(int what) {
        if (what < 0 || what > 2) {
            return OUT;
        }
        trial.begin(land);
        int impossible = NONE;
        int breaking = NONE;
        for (int line = 0; line < plan.lines; line++) {
            if (!plan.carryOut(line, trial, land, dice) && impossible == NONE) {
                impossible = line;
            }
            if (breaking == NONE && land.brokenBy(land.pairsOf(trial.home)) != 0) {
                breaking = line;
            }
        }
        return what == 0 ? impossible : what == 1 ? breaking : trial.lapsed;
    }

    public int broken() {
        return land.brokenBy(land.pairsOf(now.home));
    }

    public int odds(int family, int other) {
        int pairs = land.housePairs();
        if (!areTwo(family, other) || pairs < 1) {
            return NONE;
        }
        // By a FAIR draw each pair of HOUSES is as likely for two FAMILIES as any other.
        return land.walls * MILLION / pairs;
    }

    public int peace(int family, int most) {
        if (!isFamily(family) || most < 0 || most > 999) {
            return NONE;
        }
        ways.learn(land);
        int peaceful = 0;
        for (int way = 0; way < ways.size; way++) {
            if (ways.feltBy(way, family) <= most) {
                peaceful++;
            }
        }
        return ways.size < 1 ? NONE : (int) ((long) peaceful * MILLION / ways.size);
    }

    public int hope(int family) throws NoSuchElementException {
        if (!isFamily(family)) {
            throw new NoSuchElementException();
        }
        ways.learn(land);
        return ways.size < 1 ? 0 : (int) ((long) ways.joys[family] * 1000 / ways.size);
    }

    public int mend(int family) {
        if (family != NONE && !isFamily(family)) {
            return OUT;
        }
        ways.learn(land);
        int way = ways.firstMending(land, now.home);
        if (way == NONE) {
            return OUT;
        }
        return family == NONE ? ways.swapsTo(way, land, now.home) : ways.houseOf(way, family);
    }

    public int please(int what) {
        boolean known = what == 0 || what == 1 || what >= 2 && isFamily(what - 2);
        if (!known) {
            return NONE;
        }
        ways.learn(land);
        int way = ways.firstPleasing(land, now.home);
        switch (what) {
            case 0: return ways.contentIn(way);
            case 1: return ways.swapsTo(way, land, now.home);
            default: return ways.houseOf(way, what - 2);
        }
    }

    public int quiet(int family) {
        if (family != NONE && !isFamily(family)) {
            return OUT;
        }
        ways.learn(land);
        int way = ways.firstQuiet();
        return family == NONE ? ways.feltByAll(way) : ways.houseOf(way, family);
    }

    public int rests(int family, int other, int what) throws NoSuchElementException {
        if (!areTwo(family, other) || what < NONE || !land.areNeighbours(now.home, family, other)) {
            throw new NoSuchElementException();
        }
        int found = 0;
        for (int choices = 0; choices < 4; choices++) {
            if (land.isAtRest(family, other, choices)) {
                if (found == what) {
                    return choices;
                }
                found++;
            }
        }
        if (what != NONE) {
            throw new NoSuchElementException();
        }
        return found;
    }

    public boolean tale(int family, int other, boolean were) {
        if (!areTwo(family, other) || tales.told >= MOST_TALES) {
            return false;
        }
        tales.add(pairBit(family, other), were);
        return true;
    }

    public int how() {
        ways.learn(land);
        return ways.agreeing(tales, 0);
    }

    public int were(int family, int other) {
        if (!areTwo(family, other)) {
            return NONE;
        }
        ways.learn(land);
        int all = ways.agreeing(tales, 0);
        int besides = ways.agreeing(tales, pairBit(family, other));
        if (all == 0) {
            return NONE;
        }
        return besides == 0 ? 0 : besides == all ? 1 : 2;
    }

    public int ask() {
        ways.learn(land);
        int all = ways.agreeing(tales, 0);
        int least = all;
        int best = NONE;
        for (int one = 0; one < land.families; one++) {
            for (int other = one + 1; other < land.families; other++) {
                int besides = ways.agreeing(tales, pairBit(one, other));
                int greater = Math.max(besides, all - besides);
                if (greater < least) {
                    least = greater;
                    best = one * MOST_HOUSES + other;
                }
            }
        }
        return best;
    }

    public int gains(int family) throws NoSuchElementException {
        if (!isFamily(family)) {
            throw new NoSuchElementException();
        }
        int gain = 0;
        for (int other = 0; other < land.families; other++) {
            gain += now.lapsing(land, family, other) - now.lapsing(land, other, family);
        }
        return gain;
    }

    public int tampered(int family, int other, int draws, int times) {
        boolean counted = draws >= 1 && draws <= MOST_FAIR_DRAWS && times >= 0 && times <= draws;
        int pairs = land.housePairs();
        if (!areTwo(family, other) || !counted || pairs < 1) {
            return NONE;
        }
        // At most 15 pairs of HOUSES and six draws: a million times 15 to the sixth is far within a long.
        long good = 0;
        for (int hits = times; hits <= draws; hits++) {
            good += choose(draws, hits) * power(land.walls, hits) * power(pairs - land.walls, draws - hits);
        }
        long all = power(pairs, draws);
        return all < 1 ? NONE : (int) (good * MILLION / all);
    }

    public int centuries(int seed, int draws, int what) {
        if (!isSeed(seed) || draws < 1 || draws > MOST_CENTURIES || what < 0 || what > 2) {
            return NONE;
        }
        trial.become(now);
        trial.lapsed = 0;
        dice.seed = seed;
        int content = 0;
        int broken = 0;
        for (int turn = 0; turn < draws; turn++) {
            trial.liveOn(land, dice);
            trial.redraw(land, dice);
            content += Integer.bitCount(land.contentBits(trial.home));
            broken += Integer.bitCount(land.brokenBy(land.pairsOf(trial.home)));
        }
        return what == 0 ? content : what == 1 ? broken : trial.lapsed;
    }

    public boolean mark(int mark, boolean back) {
        if (mark < 0 || mark >= MARKS || back && !laid[mark]) {
            return false;
        }
        if (back) {
            now.become(markedLife[mark]);
            tales.become(markedTales[mark]);
            pastSize = 0;
        } else {
            markedLife[mark].become(now);
            markedTales[mark].become(tales);
            laid[mark] = true;
        }
        return true;
    }

    public int count(int what) {
        switch (what) {
            case 0: return land.houses;
            case 1: return land.families;
            case 2: return land.walls;
            case 3: return land.aparts;
            case 4: return land.besides;
            case 5: return now.draws;
            case 6: return now.lapsed;
            case 7: return sum(now.coins);
            case 8: return sum(now.debts);
            case 9: return plan.lines;
            case 10: return tales.told;
            case 11: return pastSize;
            case 12: return tape.length;
            default: return NONE;
        }
    }

    private void startAnew() {
        now.begin(land);
        plan.lines = 0;
        tales.forget();
        pastSize = 0;
        for (int i = 0; i < MARKS; i++) {
            laid[i] = false;
        }
        ways.known = false;
    }

    /** Keeps how all is, ahead of a change; beyond 16 the oldest is forgotten. */
    private void remember() {
        past[pastEnd].become(now);
        pastEnd = (pastEnd + 1) % MOST_UNDONE;
        pastSize = Math.min(pastSize + 1, MOST_UNDONE);
    }

    private boolean isHouse(int house) {
        return house >= 0 && house < land.houses;
    }

    private boolean isFamily(int family) {
        return family >= 0 && family < land.families;
    }

    private boolean areTwo(int family, int other) {
        return isFamily(family) && isFamily(other) && family != other;
    }

    private static boolean isSeed(int seed) {
        return seed >= 0 && seed <= MOST_SEED;
    }

    private static boolean isSum(int coins) {
        return coins >= 1 && coins <= MOST_COINS;
    }

    private static int within(int low, int value, int high) {
        return Math.max(low, Math.min(value, high));
    }

    private static int sum(int[] row) {
        int all = 0;
        for (int i = 0; i < row.length; i++) {
            all += row[i];
        }
        return all;
    }

    /** A pair's place among the bits of a long is the number by which ASK tells it. */
    private static long pairBit(int family, int other) {
        return 1L << (Math.min(family, other) * MOST_HOUSES + Math.max(family, other));
    }

    private static long power(int base, int exponent) {
        long result = 1;
        for (int i = 0; i < exponent; i++) {
            result *= base;
        }
        return result;
    }

    private static long choose(int all, int some) {
        long result = 1;
        for (int i = 1; i <= some; i++) {
            result = result * (all - some + i) / i;
        }
        return result;
    }

    /** The words that mean something by themselves; FREE stands for all others. */
    private enum Word {
        HOUSE("house"), WALL("wall"), FAMILY("family"), LOUD("loud"), EARS("ears"), COINS("coins"),
        LIKE("like"), HATE("hate"), OWES("owes"), APART("apart"), BESIDE("beside"),
        NOISE("noise"), JOY("joy"), HEDGE("hedge"),
        DRAW("draw"), SWAP("swap"), LEND("lend"), PAY("pay"),
        PLAIN("plain"), FIDDLER("fiddler"), SLEEPER("sleeper"), LAWYER("lawyer"),
        NOT("not"), AND("and"), OR("or"),
        LOUDNESS("loudness", true), HEARING("hearing", true), BRICK("brick", true),
        FOND("fond", true), FELT("felt", true), NEAR("near", true), MINE("mine", true), HIS("his", true),
        FREE("", true);

        final long letters;
        /** Facts are words of their own only within an E: elsewhere they are NAMES like any other. */
        final boolean canBeName;

        Word(String text) {
            this(text, false);
        }

        Word(String text, boolean canBeName) {
            long packed = 0;
            for (int i = 0; i < text.length(); i++) {
                packed = packed * 32 + (text.charAt(i) - 'a' + 1);
            }
            this.letters = packed;
            this.canBeName = canBeName;
        }
    }

    /** The TAPE. */
    private static final class Tape {
        final char[] signs = new char[MOST_SIGNS];
        int length;

        void addBytes(long eight) {
            for (int shift = 56; shift >= 0; shift -= 8) {
                add((int) (eight >>> shift) & 255);
            }
        }

        private void add(int sign) {
            boolean fits = sign == 10 || sign >= 32 && sign <= 126;
            if (fits && length < MOST_SIGNS) {
                signs[length] = (char) sign;
                length++;
            }
        }
    }

    /** The token of the TAPE that is looked at now, and the FAULT if one was found. */
    private static final class Tokens {
        static final int END = 0;
        static final int WORD = 1;
        static final int NUMBER = 2;
        static final int SIGN = 3;
        static final int NO_TOKEN = 4;
        static final int LONGEST_WORD = 8;
        static final int LONGEST_NUMBER = 4;

        final Tape tape;
        int sort;
        int place;
        int behind;
        Word word = Word.FREE;
        long letters;
        int number;
        char sign;
        int taken;
        int fault;

        Tokens(Tape tape) {
            this.tape = tape;
        }

        void start() {
            behind = 0;
            fault = 0;
            advance();
        }

        void advance() {
            while (behind < tape.length && (tape.signs[behind] == ' ' || tape.signs[behind] == 10)) {
                behind++;
            }
            place = behind;
            char first = behind < tape.length ? tape.signs[behind] : ' ';
            if (behind >= tape.length) {
                sort = END;
            } else if (first >= 'a' && first <= 'z') {
                readWord();
            } else if (first >= '0' && first <= '9') {
                readNumber();
            } else {
                readSign(first);
            }
        }

        private void readWord() {
            letters = 0;
            while (behind < tape.length && tape.signs[behind] >= 'a' && tape.signs[behind] <= 'z') {
                letters = letters * 32 + (tape.signs[behind] - 'a' + 1);
                behind++;
            }
            sort = behind - place <= LONGEST_WORD ? WORD : NO_TOKEN;
            word = Word.FREE;
            for (int i = 0; i < WORDS.length; i++) {
                if (WORDS[i].letters == letters) {
                    word = WORDS[i];
                }
            }
        }

        private void readNumber() {
            number = 0;
            while (behind < tape.length && tape.signs[behind] >= '0' && tape.signs[behind] <= '9') {
                number = number * 10 + (tape.signs[behind] - '0');
                behind++;
            }
            sort = behind - place <= LONGEST_NUMBER ? NUMBER : NO_TOKEN;
        }

        private void readSign(char first) {
            sign = first;
            sort = "()<=+-*;".indexOf(first) >= 0 ? SIGN : NO_TOKEN;
            behind++;
        }

        /** Tells the FAULT of this token; false, so that a reader can answer with it. */
        boolean refuse(int kind) {
            fault = kind + 16 * place;
            return false;
        }

        boolean isName() {
            return sort == WORD && word.canBeName;
        }

        boolean isWord(Word wanted) {
            return sort == WORD && word == wanted;
        }

        boolean isSign(char wanted) {
            return sort == SIGN && sign == wanted;
        }

        boolean takeWord(Word wanted) {
            if (!isWord(wanted)) {
                return refuse(CANT_STAND);
            }
            advance();
            return true;
        }

        boolean takeSign(char wanted) {
            if (!isSign(wanted)) {
                return refuse(CANT_STAND);
            }
            advance();
            return true;
        }

        boolean takeNumber(int low, int high) {
            if (sort != NUMBER) {
                return refuse(CANT_STAND);
            }
            if (number < low || number > high) {
                return refuse(BAD_NUMBER);
            }
            taken = number;
            advance();
            return true;
        }

        /** The KIND that stands here, NONE if none does. */
        int kindHere() {
            if (sort != WORD) {
                return NONE;
            }
            switch (word) {
                case PLAIN: return 0;
                case FIDDLER: return WallLottery.FIDDLER;
                case SLEEPER: return WallLottery.SLEEPER;
                case LAWYER: return WallLottery.LAWYER;
                default: return NONE;
            }
        }
    }

    /** The laws of noise, joy and hedges, each a row of steps on a stack: operands first, then what joins them. */
    private static final class Laws {
        static final int NOISE = 0;
        static final int JOY = 1;
        static final int HEDGE = 2;

        // Steps from 0 on are NUMBERS, so all others lie below.
        static final int FIRST_FACT = -1;
        static final int SECOND_FACT = -2;
        static final int THIRD_FACT = -3;
        static final int NOT = -4;
        static final int AND = -5;
        static final int OR = -6;
        static final int LESS = -7;
        static final int SAME = -8;
        static final int PLUS = -9;
        static final int MINUS = -10;
        static final int TIMES = -11;

        static final int DEEPEST = 5;
        static final int MOST_STEPS = 1024;
        static final int MOST_STACKED = 32;

        static final int[] UNTOLD = {
            FIRST_FACT, SECOND_FACT, PLUS, THIRD_FACT, MINUS,
            FIRST_FACT, SECOND_FACT, MINUS,
            SECOND_FACT, 2, TIMES, FIRST_FACT, MINUS, THIRD_FACT, PLUS
        };

        final int[] steps = new int[MOST_STEPS];
        final int[] from = new int[3];
        final int[] to = new int[3];
        final boolean[] told = new boolean[3];
        final int[] stack = new int[MOST_STACKED];
        int size;
        int stacked;

        void forget() {
            size = 0;
            for (int i = 0; i < UNTOLD.length; i++) {
                addStep(UNTOLD[i]);
            }
            placeLaw(NOISE, 0, 5);
            placeLaw(JOY, 5, 8);
            placeLaw(HEDGE, 8, 15);
        }

        private void placeLaw(int law, int begin, int end) {
            from[law] = begin;
            to[law] = end;
            told[law] = false;
        }

        private void addStep(int step) {
            if (size < MOST_STEPS) {
                steps[size] = step;
                size++;
            }
        }

        /** A law told is what was read from a step on. */
        void tellFrom(int law, int begin) {
            placeLaw(law, begin, size);
            told[law] = true;
        }

        /** Reads an E as far as it goes; what stands behind it is for the caller. */
        private boolean readChain(Tokens tokens, int law, int depth) {
            if (!readTest(tokens, law, depth)) {
                return false;
            }
            for (int i = 0; i < MOST_SIGNS && (tokens.isWord(Word.AND) || tokens.isWord(Word.OR)); i++) {
                int step = tokens.isWord(Word.AND) ? AND : OR;
                tokens.advance();
                if (!readTest(tokens, law, depth)) {
                    return false;
                }
                addStep(step);
            }
            return true;
        }

        private boolean readTest(Tokens tokens, int law, int depth) {
            if (!readSum(tokens, law, depth)) {
                return false;
            }
            if (!tokens.isSign('<') && !tokens.isSign('=')) {
                return true;
            }
            int step = tokens.isSign('<') ? LESS : SAME;
            tokens.advance();
            if (!readSum(tokens, law, depth)) {
                return false;
            }
            addStep(step);
            return true;
        }

        private boolean readSum(Tokens tokens, int law, int depth) {
            if (!readProduct(tokens, law, depth)) {
                return false;
            }
            for (int i = 0; i < MOST_SIGNS && (tokens.isSign('+') || tokens.isSign('-')); i++) {
                int step = tokens.isSign('+') ? PLUS : MINUS;
                tokens.advance();
                if (!readProduct(tokens, law, depth)) {
                    return false;
                }
                addStep(step);
            }
            return true;
        }

        private boolean readProduct(Tokens tokens, int law, int depth) {
            if (!readPart(tokens, law, depth)) {
                return false;
            }
            for (int i = 0; i < MOST_SIGNS && tokens.isSign('*'); i++) {
                tokens.advance();
                if (!readPart(tokens, law, depth)) {
                    return false;
                }
                addStep(TIMES);
            }
            return true;
        }

        private boolean readPart(Tokens tokens, int law, int depth) {
            int fact = factHere(tokens, law);
            boolean number = tokens.sort == Tokens.NUMBER;
            boolean not = tokens.isWord(Word.NOT);
            if (!number && fact == NONE && !not && !tokens.isSign('(')) {
                return tokens.refuse(CANT_STAND);
            }
            if (depth >= DEEPEST) {
                return tokens.refuse(TOO_MANY);
            }
            if (number || fact != NONE) {
                addStep(number ? tokens.number : FIRST_FACT - fact);
                tokens.advance();
                return true;
            }
            tokens.advance();
            if (!not) {
                return readChain(tokens, law, depth + 1) && tokens.takeSign(')');
            }
            if (!readPart(tokens, law, depth + 1)) {
                return false;
            }
            addStep(NOT);
            return true;
        }

        /** Which of the three facts of a law stands here, NONE if none does. */
        private static int factHere(Tokens tokens, int law) {
            if (tokens.sort != Tokens.WORD) {
                return NONE;
            }
            switch (tokens.word) {
                case LOUDNESS: return law == NOISE ? 0 : NONE;
                case HEARING: return law == NOISE ? 1 : NONE;
                case BRICK: return law == NOISE ? 2 : NONE;
                case FOND: return law == JOY ? 0 : law == HEDGE ? 2 : NONE;
                case FELT: return law == JOY ? 1 : NONE;
                case NEAR: return law == JOY ? 2 : NONE;
                case MINE: return law == HEDGE ? 0 : NONE;
                case HIS: return law == HEDGE ? 1 : NONE;
                default: return NONE;
            }
        }

        /** What comes of a law when its three facts are these. */
        int valueOf(int law, int first, int second, int third) {
            stacked = 0;
            if (law < NOISE || law > HEDGE) {
                return 0;
            }
            for (int i = from[law]; i >= 0 && i < to[law] && i < MOST_STEPS; i++) {
                int step = steps[i];
                if (step >= 0) {
                    push(step);
                } else if (step >= THIRD_FACT) {
                    push(step == FIRST_FACT ? first : step == SECOND_FACT ? second : third);
                } else if (step == NOT) {
                    push(pop() == 0 ? 1 : 0);
                } else {
                    int right = pop();
                    push(joined(step, pop(), right));
                }
            }
            return pop();
        }

        private static int joined(int step, int left, int right) {
            switch (step) {
                case AND: return left != 0 && right != 0 ? 1 : 0;
                case OR: return left != 0 || right != 0 ? 1 : 0;
                case LESS: return left < right ? 1 : 0;
                case SAME: return left == right ? 1 : 0;
                case PLUS: return left + right;
                case MINUS: return left - right;
                default: return left * right;
            }
        }

        private void push(int value) {
            if (stacked < MOST_STACKED) {
                stack[stacked] = value;
                stacked++;
            }
        }

        private int pop() {
            if (stacked < 1) {
                return 0;
            }
            stacked--;
            return stack[stacked];
        }
    }

    /** A TOWN as it was told, and what is so in it when the FAMILIES live in a given row of HOUSES. */
    private static final class Town {
        static final int MOST_THICK = 9;

        final long[] houseNames = new long[MOST_HOUSES];
        final long[] familyNames = new long[MOST_HOUSES];
        final int[] kinds = new int[MOST_HOUSES];
        final int[] louds = new int[MOST_HOUSES];
        final int[] ears = new int[MOST_HOUSES];
        final int[] coins = new int[MOST_HOUSES];
        final int[] bricks = new int[MOST_HOUSES * MOST_HOUSES];
        final int[] likes = new int[MOST_HOUSES * MOST_HOUSES];
        final int[] hates = new int[MOST_HOUSES * MOST_HOUSES];
        final int[] debts = new int[MOST_HOUSES * MOST_HOUSES];
        final long[] customs = new long[2 * MOST_CUSTOMS];
        final int[] heard = new int[MOST_HOUSES * MOST_HOUSES * (MOST_THICK + 1)];
        final Laws laws = new Laws();
        int houses;
        int families;
        int walls;
        int aparts;
        int besides;

        void forget() {
            houses = 0;
            families = 0;
            walls = 0;
            aparts = 0;
            besides = 0;
            for (int i = 0; i < bricks.length; i++) {
                bricks[i] = 0;
                likes[i] = 0;
                hates[i] = 0;
                debts[i] = 0;
            }
            laws.forget();
        }

        int houseNamed(long name) {
            for (int i = 0; i < houses; i++) {
                if (houseNames[i] == name) {
                    return i;
                }
            }
            return NONE;
        }

        int familyNamed(long name) {
            for (int i = 0; i < families; i++) {
                if (familyNames[i] == name) {
                    return i;
                }
            }
            return NONE;
        }

        int loudness(int family) {
            return kinds[family] == FIDDLER ? 2 * louds[family] : louds[family];
        }

        int hearing(int family) {
            return kinds[family] == SLEEPER ? 0 : ears[family];
        }

        int fondness(int family, int other) {
            int two = family * MOST_HOUSES + other;
            return likes[two] - hates[two];
        }

        /** Works the law of noise out for all once, as a FAIR draw asks for it thousands of times. */
        void listen() {
            for (int family = 0; family < families; family++) {
                for (int other = 0; other < families; other++) {
                    for (int thick = 1; thick <= MOST_THICK; thick++) {
                        int noise = laws.valueOf(Laws.NOISE, loudness(other), hearing(family), thick);
                        heard[heardPlace(family, other, thick)] = within(0, noise, 99);
                    }
                }
            }
        }

        private static int heardPlace(int family, int other, int thick) {
            return (family * MOST_HOUSES + other) * (MOST_THICK + 1) + thick;
        }

        int housePairs() {
            return houses * (houses - 1) / 2;
        }

        int familyIn(int[] home, int house) {
            for (int family = 0; family < families; family++) {
                if (home[family] == house) {
                    return family;
                }
            }
            return NONE;
        }

        int thickBetween(int[] home, int family, int other) {
            return bricks[home[family] * MOST_HOUSES + home[other]];
        }

        boolean areNeighbours(int[] home, int family, int other) {
            return thickBetween(home, family, other) != 0;
        }

        int neighbourBits(int[] home, int family) {
            int bits = 0;
            for (int other = 0; other < families; other++) {
                if (areNeighbours(home, family, other)) {
                    bits |= 1 << other;
                }
            }
            return bits;
        }

        /** All two who are NEIGHBOURS, by their bits. */
        long pairsOf(int[] home) {
            long pairs = 0;
            for (int family = 0; family < families; family++) {
                for (int other = family + 1; other < families; other++) {
                    if (areNeighbours(home, family, other)) {
                        pairs |= pairBit(family, other);
                    }
                }
            }
            return pairs;
        }

        int brokenBy(long pairs) {
            int bits = 0;
            for (int i = 0; i < aparts; i++) {
                if ((pairs & customs[i]) != 0) {
                    bits |= 1 << i;
                }
            }
            for (int i = MOST_CUSTOMS; i < MOST_CUSTOMS + besides; i++) {
                if ((pairs & customs[i]) == 0) {
                    bits |= 1 << i;
                }
            }
            return bits;
        }

        int feltBy(int[] home, int family) {
            int felt = 0;
            for (int other = 0; other < families; other++) {
                int thick = thickBetween(home, family, other);
                if (thick != 0) {
                    felt += heard[heardPlace(family, other, thick)];
                }
            }
            return felt;
        }

        int joyOf(int[] home, int family) {
            int fond = 0;
            int near = 0;
            for (int other = 0; other < families; other++) {
                if (areNeighbours(home, family, other)) {
                    fond += fondness(family, other);
                    near++;
                }
            }
            return within(-999, laws.valueOf(Laws.JOY, fond, feltBy(home, family), near), 999);
        }

        int contentBits(int[] home) {
            int bits = 0;
            for (int family = 0; family < families; family++) {
                if (joyOf(home, family) >= 0) {
                    bits |= 1 << family;
                }
            }
            return bits;
        }

        /** Whether neither gets more by its other choice; the choices are 2 * the first one's + the second one's. */
        boolean isAtRest(int family, int other, int choices) {
            int first = choices >> 1;
            int second = choices & 1;
            return hedge(family, other, first, second) >= hedge(family, other, 1 - first, second)
                && hedge(other, family, second, first) >= hedge(other, family, 1 - second, first);
        }

        private int hedge(int family, int other, int mine, int his) {
            return within(-99, laws.valueOf(Laws.HEDGE, mine, his, fondness(family, other)), 99);
        }
    }

    /** Reads TOWNS and DAYS; what reads a line answers false when it has told a FAULT. */
    private static final class Reader {
        final Tokens tokens;
        int first;
        int second;

        Reader(Tokens tokens) {
            this.tokens = tokens;
        }

        int readTown(Town fresh) {
            fresh.forget();
            tokens.start();
            boolean right = true;
            for (int i = 0; i < MOST_SIGNS && right && tokens.sort != Tokens.END; i++) {
                right = readTownLine(fresh) && tokens.takeSign(';');
            }
            if (right) {
                fresh.listen();
            }
            return tokens.fault;
        }

        private boolean readTownLine(Town fresh) {
            if (tokens.sort != Tokens.WORD) {
                return tokens.refuse(CANT_STAND);
            }
            switch (tokens.word) {
                case HOUSE: return readHouse(fresh);
                case WALL: return readWall(fresh);
                case FAMILY: return readFamily(fresh);
                case LIKE: return readOfTwo(fresh, fresh.likes, 9);
                case HATE: return readOfTwo(fresh, fresh.hates, 9);
                case OWES: return readOfTwo(fresh, fresh.debts, 99);
                case APART: return readApart(fresh);
                case BESIDE: return readBeside(fresh);
                case NOISE: return readLaw(fresh, Laws.NOISE);
                case JOY: return readLaw(fresh, Laws.JOY);
                case HEDGE: return readLaw(fresh, Laws.HEDGE);
                default: return tokens.refuse(CANT_STAND);
            }
        }

        private boolean readHouse(Town fresh) {
            if (fresh.houses >= MOST_HOUSES) {
                return tokens.refuse(TOO_MANY);
            }
            tokens.advance();
            if (!isNewName(fresh)) {
                return false;
            }
            fresh.houseNames[fresh.houses] = tokens.letters;
            fresh.houses++;
            tokens.advance();
            return true;
        }

        private boolean readWall(Town fresh) {
            tokens.advance();
            if (!readTwo(fresh, true)) {
                return false;
            }
            int two = first * MOST_HOUSES + second;
            if (fresh.bricks[two] != 0) {
                return tokens.refuse(TOLD_ALREADY);
            }
            tokens.advance();
            if (!tokens.takeNumber(1, Town.MOST_THICK)) {
                return false;
            }
            fresh.bricks[two] = tokens.taken;
            fresh.bricks[second * MOST_HOUSES + first] = tokens.taken;
            fresh.walls++;
            return true;
        }

        private boolean readFamily(Town fresh) {
            int family = fresh.families;
            if (family >= fresh.houses || family >= MOST_HOUSES) {
                return tokens.refuse(TOO_MANY);
            }
            tokens.advance();
            if (!isNewName(fresh)) {
                return false;
            }
            fresh.familyNames[family] = tokens.letters;
            tokens.advance();
            int kind = tokens.kindHere();
            if (kind == NONE) {
                return tokens.refuse(CANT_STAND);
            }
            fresh.kinds[family] = kind;
            tokens.advance();
            if (!readTrait(Word.LOUD, 9, fresh.louds, family)
                || !readTrait(Word.EARS, 9, fresh.ears, family)
                || !readTrait(Word.COINS, MOST_COINS, fresh.coins, family)) {
                return false;
            }
            fresh.families++;
            return true;
        }

        private boolean readTrait(Word word, int most, int[] row, int family) {
            if (!tokens.takeWord(word) || !tokens.takeNumber(0, most)) {
                return false;
            }
            if (family >= 0 && family < row.length) {
                row[family] = tokens.taken;
            }
            return true;
        }

        private boolean readOfTwo(Town fresh, int[] table, int most) {
            tokens.advance();
            if (!readTwo(fresh, false)) {
                return false;
            }
            int two = first * MOST_HOUSES + second;
            if (table[two] != 0) {
                return tokens.refuse(TOLD_ALREADY);
            }
            tokens.advance();
            if (!tokens.takeNumber(1, most)) {
                return false;
            }
            table[two] = tokens.taken;
            return true;
        }

        private boolean readApart(Town fresh) {
            if (!readCustom(fresh, fresh.aparts, 0)) {
                return false;
            }
            fresh.aparts++;
            return true;
        }

        private boolean readBeside(Town fresh) {
            if (!readCustom(fresh, fresh.besides, MOST_CUSTOMS)) {
                return false;
            }
            fresh.besides++;
            return true;
        }

        private boolean readCustom(Town fresh, int before, int base) {
            if (before >= MOST_CUSTOMS) {
                return tokens.refuse(TOO_MANY);
            }
            tokens.advance();
            if (!readTwo(fresh, false)) {
                return false;
            }
            fresh.customs[base + before] = pairBit(first, second);
            tokens.advance();
            return true;
        }

        private boolean readLaw(Town fresh, int law) {
            if (fresh.laws.told[law]) {
                return tokens.refuse(TOLD_ALREADY);
            }
            tokens.advance();
            int begin = fresh.laws.size;
            if (!fresh.laws.readChain(tokens, law, 0)) {
                return false;
            }
            fresh.laws.tellFrom(law, begin);
            return true;
        }

        int readDays(Town land, Days fresh) {
            fresh.lines = 0;
            tokens.start();
            boolean right = true;
            for (int i = 0; i < MOST_SIGNS && right && tokens.sort != Tokens.END; i++) {
                right = readDaysLine(land, fresh) && tokens.takeSign(';');
            }
            return tokens.fault;
        }

        private boolean readDaysLine(Town land, Days fresh) {
            int act = actHere();
            if (act == NONE) {
                return tokens.refuse(CANT_STAND);
            }
            if (fresh.lines >= MOST_LINES) {
                return tokens.refuse(TOO_MANY);
            }
            tokens.advance();
            if (act == Days.DRAW) {
                return tokens.takeNumber(0, MOST_SEED) && fresh.add(act, 0, 0, tokens.taken);
            }
            if (!readTwo(land, false)) {
                return false;
            }
            tokens.advance();
            if (act == Days.SWAP) {
                return fresh.add(act, first, second, 0);
            }
            return tokens.takeNumber(1, MOST_COINS) && fresh.add(act, first, second, tokens.taken);
        }

        private int actHere() {
            if (tokens.sort != Tokens.WORD) {
                return NONE;
            }
            switch (tokens.word) {
                case DRAW: return Days.DRAW;
                case SWAP: return Days.SWAP;
                case LEND: return Days.LEND;
                case PAY: return Days.PAY;
                default: return NONE;
            }
        }

        private boolean isNewName(Town fresh) {
            if (!tokens.isName()) {
                return tokens.refuse(CANT_STAND);
            }
            boolean old = fresh.houseNamed(tokens.letters) != NONE || fresh.familyNamed(tokens.letters) != NONE;
            return !old || tokens.refuse(TOLD_ALREADY);
        }

        /** Reads two NAMES up to the second, which stays the token at hand: the caller may have to refuse it yet. */
        private boolean readTwo(Town land, boolean ofHouses) {
            first = toldHere(land, ofHouses);
            if (first == NONE) {
                return false;
            }
            tokens.advance();
            second = toldHere(land, ofHouses);
            if (second == NONE) {
                return false;
            }
            return first != second || tokens.refuse(TOLD_ALREADY);
        }

        private int toldHere(Town land, boolean ofHouses) {
            if (!tokens.isName()) {
                tokens.refuse(CANT_STAND);
                return NONE;
            }
            int number = ofHouses ? land.houseNamed(tokens.letters) : land.familyNamed(tokens.letters);
            if (number == NONE) {
                tokens.refuse(NOT_TOLD);
            }
            return number;
        }
    }

    /** The DAYS. */
    private static final class Days {
        static final int DRAW = 0;
        static final int SWAP = 1;
        static final int LEND = 2;
        static final int PAY = 3;

        final int[] acts = new int[MOST_LINES];
        final int[] firsts = new int[MOST_LINES];
        final int[] seconds = new int[MOST_LINES];
        final int[] amounts = new int[MOST_LINES];
        int lines;

        /** Always true, so that a reader can answer with it. */
        boolean add(int act, int first, int second, int amount) {
            if (lines < MOST_LINES) {
                acts[lines] = act;
                firsts[lines] = first;
                seconds[lines] = second;
                amounts[lines] = amount;
                lines++;
            }
            return true;
        }

        /** Does a line in a life; false if it can't be: it is left out then. */
        boolean carryOut(int line, Life life, Town land, Dice dice) {
            if (line < 0 || line >= lines || line >= MOST_LINES) {
                return false;
            }
            int first = firsts[line];
            int second = seconds[line];
            int amount = amounts[line];
            switch (acts[line]) {
                case DRAW:
                    dice.seed = amount;
                    life.redraw(land, dice);
                    return true;
                case SWAP:
                    life.changeHouses(first, second);
                    return true;
                case LEND:
                    if (!life.canLend(land, first, second, amount)) {
                        return false;
                    }
                    life.giveLoan(first, second, amount);
                    return true;
                default:
                    if (!life.canPay(first, second, amount)) {
                        return false;
                    }
                    life.payBack(first, second, amount);
                    return true;
            }
        }
    }

    /** The draws out of the barrels. */
    private static final class Dice {
        final int[] row = new int[MOST_HOUSES];
        long seed;

        int below(int most) {
            seed = (seed * 1103515245L + 12345L) % 2147483648L;
            return most < 1 ? 0 : (int) (seed / 65536 % most);
        }

        /** Puts the HOUSES into the row as the child draws them. */
        void shuffle(int houses) {
            int size = Math.min(houses, MOST_HOUSES);
            for (int i = 0; i < size; i++) {
                row[i] = i;
            }
            for (int last = size - 1; last > 0; last--) {
                int drawn = below(last + 1);
                int house = row[last];
                row[last] = row[drawn];
                row[drawn] = house;
            }
        }
    }

    /** Who lives where, coins, debts, and what became of them by draws. */
    private static final class Life {
        final int[] home = new int[MOST_HOUSES];
        final int[] coins = new int[MOST_HOUSES];
        final int[] debts = new int[MOST_HOUSES * MOST_HOUSES];
        int draws;
        int lapsed;

        void begin(Town land) {
            for (int i = 0; i < MOST_HOUSES; i++) {
                home[i] = i;
                coins[i] = i < land.families ? land.coins[i] : 0;
            }
            System.arraycopy(land.debts, 0, debts, 0, debts.length);
            draws = 0;
            lapsed = 0;
        }

        void become(Life other) {
            System.arraycopy(other.home, 0, home, 0, home.length);
            System.arraycopy(other.coins, 0, coins, 0, coins.length);
            System.arraycopy(other.debts, 0, debts, 0, debts.length);
            draws = other.draws;
            lapsed = other.lapsed;
        }

        /** What of a debt would lapse by a DRAW now. */
        int lapsing(Town land, int family, int other) {
            boolean lapses = land.kinds[other] != LAWYER && land.areNeighbours(home, family, other);
            return lapses ? debts[family * MOST_HOUSES + other] : 0;
        }

        /** A DRAW; answers what lapses by it. */
        int redraw(Town land, Dice dice) {
            int gone = 0;
            for (int family = 0; family < land.families; family++) {
                for (int other = 0; other < land.families; other++) {
                    int part = lapsing(land, family, other);
                    debts[family * MOST_HOUSES + other] -= part;
                    gone += part;
                }
            }
            dice.shuffle(land.houses);
            for (int family = 0; family < land.families; family++) {
                home[family] = dice.row[family];
            }
            draws++;
            lapsed += gone;
            return gone;
        }

        void changeHouses(int family, int other) {
            int house = home[family];
            home[family] = home[other];
            home[other] = house;
        }

        boolean canLend(Town land, int family, int other, int sum) {
            return coins[family] >= sum && land.areNeighbours(home, family, other);
        }

        void giveLoan(int family, int other, int sum) {
            coins[family] -= sum;
            coins[other] += sum;
            debts[other * MOST_HOUSES + family] += sum;
        }

        boolean canPay(int family, int other, int sum) {
            return coins[family] >= sum && debts[family * MOST_HOUSES + other] >= sum;
        }

        void payBack(int family, int other, int sum) {
            coins[family] -= sum;
            coins[other] += sum;
            debts[family * MOST_HOUSES + other] -= sum;
        }

        /** What happens between two draws of CENTURIES. */
        void liveOn(Town land, Dice dice) {
            int families = land.families;
            if (families < 2) {
                return;
            }
            int lender = dice.below(families);
            int borrower = dice.below(families);
            if (lender != borrower && canLend(land, lender, borrower, 1)) {
                giveLoan(lender, borrower, 1);
            }
            if (dice.below(10) == 0) {
                int one = dice.below(families);
                int other = dice.below(families);
                changeHouses(one, other);
            }
        }
    }

    /** The TALES: those who were NEIGHBOURS by them, and those who were not. */
    private static final class Tales {
        long besides;
        long aparts;
        int told;

        void forget() {
            besides = 0;
            aparts = 0;
            told = 0;
        }

        void become(Tales other) {
            besides = other.besides;
            aparts = other.aparts;
            told = other.told;
        }

        void add(long pair, boolean beside) {
            if (beside) {
                besides |= pair;
            } else {
                aparts |= pair;
            }
            told++;
        }

        boolean agreeWith(long pairs) {
            return (pairs & besides) == besides && (pairs & aparts) == 0;
        }
    }

    /** All ways to give HOUSES to the FAMILIES, in the order of their rows, and what is so by each. */
    private static final class Ways {
        static final int HOUSE_BITS = 3;
        static final int FELT_BITS = 9;

        final int[] rows = new int[MOST_WAYS];
        final long[] felt = new long[MOST_WAYS];
        final long[] pairs = new long[MOST_WAYS];
        final int[] content = new int[MOST_WAYS];
        final int[] joys = new int[MOST_HOUSES];
        final int[] home = new int[MOST_HOUSES];
        int families;
        int size;
        boolean known;

        void learn(Town land) {
            if (known) {
                return;
            }
            known = true;
            size = 0;
            families = land.families;
            for (int i = 0; i < MOST_HOUSES; i++) {
                joys[i] = 0;
            }
            settle(land, 0, 0);
        }

        private void settle(Town land, int family, int taken) {
            if (family >= families || family >= MOST_HOUSES) {
                note(land);
                return;
            }
            for (int house = 0; house < land.houses; house++) {
                if ((taken >> house & 1) == 0) {
                    home[family] = house;
                    settle(land, family + 1, taken | 1 << house);
                }
            }
        }

        private void note(Town land) {
            if (size >= MOST_WAYS) {
                return;
            }
            int row = 0;
            long feelings = 0;
            int contents = 0;
            for (int family = 0; family < families; family++) {
                int joy = land.joyOf(home, family);
                joys[family] += joy;
                contents += joy >= 0 ? 1 : 0;
                row |= home[family] << HOUSE_BITS * family;
                feelings |= (long) land.feltBy(home, family) << FELT_BITS * family;
            }
            rows[size] = row;
            felt[size] = feelings;
            content[size] = contents;
            pairs[size] = land.pairsOf(home);
            size++;
        }

        private boolean isWay(int way) {
            return way >= 0 && way < size;
        }

        int houseOf(int way, int family) {
            return isWay(way) ? rows[way] >> HOUSE_BITS * family & 7 : NONE;
        }

        int feltBy(int way, int family) {
            return isWay(way) ? (int) (felt[way] >> FELT_BITS * family & 511) : 0;
        }

        int feltByAll(int way) {
            int all = 0;
            for (int family = 0; family < families; family++) {
                all += feltBy(way, family);
            }
            return all;
        }

        int contentIn(int way) {
            return isWay(way) ? content[way] : 0;
        }

        /** The SWAPS from the HOUSES where the FAMILIES are now to a way. */
        int swapsTo(int way, Town land, int[] from) {
            int swaps = 0;
            for (int family = 0; family < families; family++) {
                if (houseOf(way, family) != from[family] && !leadsRing(way, land, from, family)) {
                    swaps++;
                }
            }
            return swaps;
        }

        /** Whether a FAMILY is the first of a ring who take one another's HOUSES: so each ring is met once. */
        private boolean leadsRing(int way, Town land, int[] from, int family) {
            int next = family;
            for (int step = 0; step < families; step++) {
                next = land.familyIn(from, houseOf(way, next));
                if (next <= family) {
                    return next == family;
                }
            }
            return false;
        }

        /** The first of the ways by which no custom is BROKEN, by the fewest SWAPS; NONE if there is none. */
        int firstMending(Town land, int[] from) {
            int best = NONE;
            int fewest = 0;
            for (int way = 0; way < size; way++) {
                if (land.brokenBy(pairs[way]) == 0) {
                    int swaps = swapsTo(way, land, from);
                    if (best == NONE || swaps < fewest) {
                        best = way;
                        fewest = swaps;
                    }
                }
            }
            return best;
        }

        /** The first of the ways by which the most are CONTENT, of these by the fewest SWAPS. */
        int firstPleasing(Town land, int[] from) {
            int best = NONE;
            int fewest = 0;
            for (int way = 0; way < size; way++) {
                int more = content[way] - contentIn(best);
                if (best == NONE || more >= 0) {
                    int swaps = swapsTo(way, land, from);
                    if (best == NONE || more > 0 || swaps < fewest) {
                        best = way;
                        fewest = swaps;
                    }
                }
            }
            return best;
        }

        int firstQuiet() {
            int best = 0;
            for (int way = 1; way < size; way++) {
                if (feltByAll(way) < feltByAll(best)) {
                    best = way;
                }
            }
            return best;
        }

        /** By how many ways all TALES are so, and all of some pairs are NEIGHBOURS. */
        int agreeing(Tales tales, long besides) {
            int found = 0;
            for (int way = 0; way < size; way++) {
                if (tales.agreeWith(pairs[way]) && (pairs[way] & besides) == besides) {
                    found++;
                }
            }
            return found;
        }
    }
}
