/**
 * Bargains of few words, laws over what they mean, and the strikes that leave words out.
 * The document ../shared/DOC.md tells what each call promises; its terms are the names used here.
 */
public final class PencilStrikes {
    public static final int NONE = -1, BAD = -2, STATE = -3, FULL = -4;
    public static final long NO = Long.MIN_VALUE;

    private static final int NONE_GOOD = -5, FAULT_BASE = -10;
    private static final int NOTHING = -11, CAST = -12, PLACE = -13, SIZE = -14;

    private static final int TEXT_MOST = 100, BARGAINS_MOST = 6, LAWS_MOST = 5, FED_MOST = 4;
    private static final int WORDS_MOST = 12;
    private static final int THINGS = 10, PRICE_FIRST = 5, PRICE_MOST = 99;
    private static final int ADDED_MOST = 60;
    private static final int TAPES = 6, TAPE_MOST = 60;
    private static final int BEYOND_THE_ROW = 1000;

    private static final int STRIKE = 0, WORDS = 1, ITEMS = 2, CLAUSES = 3, NUMBERS = 4, ALL = 5, SENSE = 6;
    private static final int KINDS = 7;
    private static final int[] KIND_ABOVE = {-1, STRIKE, STRIKE, STRIKE, WORDS, CLAUSES, WORDS};

    private static final int BOTH = 2;

    private final Text waiting = new Text();
    private final LawReader lawReader = new LawReader();
    private final Bargain[] bargains = new Bargain[BARGAINS_MOST];
    private final Law[] laws = new Law[LAWS_MOST];
    private final int[] prices = new int[THINGS];
    private final Tape[] tapes = new Tape[TAPES];
    private final Acts acts = new Acts();
    /** What is left after the strike that is looked at: one row for all calls, to spare the room. */
    private final Duties left = new Duties();
    private int bargainCount;
    private int lawCount;

    public PencilStrikes() {
        for (int thing = 0; thing < prices.length; thing++) {
            prices[thing] = PRICE_FIRST;
        }
        for (int i = 0; i < tapes.length; i++) {
            tapes[i] = new Tape();
        }
    }

    // ---- texts

    public int feed(int bytes, int n) {
        if (n < 0 || n > FED_MOST) {
            return BAD;
        }
        if (waiting.size() + n > TEXT_MOST) {
            return FULL;
        }
        for (int i = n - 1; i >= 0; i--) {
            waiting.add(bytes >> 8 * i & 255);
        }
        return waiting.size();
    }

    public int text(int what) {
        if (what != 0 && what != 1) {
            return NONE;
        }
        if (what == 0 ? bargainCount >= bargains.length : lawCount >= laws.length) {
            return FULL;
        }
        int fault = what == 0 ? Bargain.faultOf(waiting) : lawReader.faultOf(waiting);
        int number = FAULT_BASE - fault;
        if (fault < 0) {
            number = what == 0 ? addBargain() : addLaw();
        }
        waiting.clear();
        return number;
    }

    public int word(int bargain, int i) {
        Bargain b = bargainOf(bargain);
        if (b == null || i < -1 || i >= b.size()) {
            return NONE;
        }
        return i == -1 ? b.size() : b.wordAt(i);
    }

    public int price(int thing, int n) {
        if (thing < 0 || thing >= prices.length) {
            return NONE;
        }
        if (n < 0 || n > PRICE_MOST) {
            return BAD;
        }
        int before = prices[thing];
        prices[thing] = n;
        return before;
    }

    // ---- what is left

    public int reads(int bargain, int set) {
        Bargain b = bargainOf(bargain);
        if (b == null) {
            return NONE;
        }
        if (!b.hasSet(set)) {
            return BAD;
        }
        return b.isReadable(set) ? 1 : 0;
    }

    public long means(int bargain, int set, int i) {
        Bargain b = bargainOf(bargain);
        if (b == null || !b.isReadable(set)) {
            return NO;
        }
        b.tellDuties(set, left);
        if (i < -1 || i >= left.size()) {
            return NO;
        }
        return i == -1 ? left.size() : left.at(i);
    }

    public int lawful(int bargain, int set, int law) {
        Bargain b = bargainOf(bargain);
        Law l = lawOf(law);
        if (b == null || l == null) {
            return NONE;
        }
        if (!b.hasSet(set)) {
            return BAD;
        }
        if (!b.isReadable(set)) {
            return 0;
        }
        b.tellDuties(set, left);
        return l.allows(left, 0) ? 1 : 0;
    }

    public int barred(int bargain, int set, int law) {
        Bargain b = bargainOf(bargain);
        Law l = lawOf(law);
        if (b == null || l == null) {
            return NONE;
        }
        if (!b.hasSet(set)) {
            return BAD;
        }
        if (!b.isReadable(set)) {
            return STATE;
        }
        b.tellDuties(set, left);
        return l.barredDuties(left);
    }

    public int let(int kind, int bargain, int set) {
        Bargain b = bargainOf(bargain);
        if (!isKind(kind) || b == null) {
            return NONE;
        }
        if (!b.hasSet(set)) {
            return BAD;
        }
        return isLet(kind, b, set) ? 1 : 0;
    }

    // ---- strikes

    public int good(int kind, int bargain, int law, int i) {
        Bargain b = bargainOf(bargain);
        Law l = lawOf(law);
        if (!isKind(kind) || b == null || l == null || i < -1) {
            return NONE;
        }
        int told = 0;
        for (int r = 0; r < b.readings(); r++) {
            if (!isGood(kind, b, l, b.readingAt(r))) {
                continue;
            }
            if (told == i) {
                return b.readingAt(r);
            }
            told++;
        }
        return i == -1 ? told : NONE;
    }

    public int next(int kind, int bargain, int law, int set) {
        Bargain b = bargainOf(bargain);
        Law l = lawOf(law);
        if (!isKind(kind) || b == null || l == null) {
            return NONE;
        }
        if (set != -1 && !b.hasSet(set)) {
            return BAD;
        }
        for (int r = 0; r < b.readings(); r++) {
            int greater = b.readingAt(r);
            if (greater > set && isGood(kind, b, l, greater)) {
                return greater;
            }
        }
        return NONE_GOOD;
    }

    public int least(int kind, int bargain, int law) {
        Bargain b = bargainOf(bargain);
        Law l = lawOf(law);
        if (!isKind(kind) || b == null || l == null) {
            return NONE;
        }
        int best = NONE_GOOD;
        for (int r = 0; r < b.readings(); r++) {
            int set = b.readingAt(r);
            boolean fewer = best < 0 || Integer.bitCount(set) < Integer.bitCount(best);
            if (fewer && isGood(kind, b, l, set)) {
                best = set;
            }
        }
        return best;
    }

    public int inAll(int kind, int bargain, int law) {
        Bargain b = bargainOf(bargain);
        Law l = lawOf(law);
        if (!isKind(kind) || b == null || l == null) {
            return NONE;
        }
        int common = b.sets() - 1;
        for (int r = 0; r < b.readings(); r++) {
            if (isGood(kind, b, l, b.readingAt(r))) {
                common &= b.readingAt(r);
            }
        }
        return common;
    }

    public int plain(int bargain) {
        Bargain b = bargainOf(bargain);
        if (b == null) {
            return NONE;
        }
        if (!b.isReadable(0)) {
            return STATE;
        }
        int best = 0;
        for (int r = 0; r < b.readings(); r++) {
            int set = b.readingAt(r);
            b.tellDuties(set, left);
            if (Integer.bitCount(set) > Integer.bitCount(best) && left.isSameAs(b.whole())) {
                best = set;
            }
        }
        return best;
    }

    // ---- costs

    public long cost(int bargain, int set, int who) {
        Bargain b = bargainOf(bargain);
        if (b == null || who < 0 || who > 1 || !b.isReadable(set)) {
            return NO;
        }
        b.tellDuties(set, left);
        return left.costFor(who, prices);
    }

    public int dear(int kind, int bargain, int law, int who) {
        Bargain b = bargainOf(bargain);
        Law l = lawOf(law);
        if (!isKind(kind) || b == null || l == null || who < 0 || who > BOTH) {
            return NONE;
        }
        int best = NONE_GOOD;
        int bestWeight = 0;
        for (int r = 0; r < b.readings(); r++) {
            int set = b.readingAt(r);
            if (!isGood(kind, b, l, set)) {
                continue;
            }
            int weight = weightFor(b, set, who);
            boolean fewer = best >= 0 && Integer.bitCount(set) < Integer.bitCount(best);
            if (best < 0 || weight < bestWeight || weight == bestWeight && fewer) {
                best = set;
                bestWeight = weight;
            }
        }
        return best;
    }

    public int alone(int kind, int bargain) {
        Bargain b = bargainOf(bargain);
        if (!isKind(kind) || b == null) {
            return NONE;
        }
        return b.isReadable(0) ? aloneDuties(kind, b) : STATE;
    }

    public int apart(int kind, int bargain, int law) {
        Bargain b = bargainOf(bargain);
        Law l = lawOf(law);
        if (!isKind(kind) || b == null || l == null) {
            return NONE;
        }
        if (!b.isReadable(0)) {
            return STATE;
        }
        int barredOnes = Integer.bitCount(l.barredDuties(b.whole()));
        int barredAlone = Integer.bitCount(l.barredDuties(b.whole()) & aloneDuties(kind, b));
        return pairsOf(barredOnes) - pairsOf(barredAlone);
    }

    public int saves(int bargain, int law) {
        Bargain b = bargainOf(bargain);
        Law l = lawOf(law);
        if (b == null || l == null) {
            return NONE;
        }
        if (!b.isReadable(0)) {
            return NONE_GOOD;
        }
        for (int added = 0; added <= ADDED_MOST; added++) {
            if (l.allows(b.whole(), added)) {
                return added;
            }
        }
        return NONE_GOOD;
    }

    // ---- tables, acts, tapes

    public int table(int tape, int i, int kind, int bargain, int law) {
        Tape row = tapeOf(tape);
        Bargain b = bargainOf(bargain);
        Law l = lawOf(law);
        if (row == null || !isKind(kind) || b == null || l == null) {
            return NONE;
        }
        if (row.holds() && row.sort() != Tape.SHORTS) {
            return CAST;
        }
        int told = 0;
        for (int r = 0; r < b.readings(); r++) {
            if (!isGood(kind, b, l, b.readingAt(r))) {
                continue;
            }
            // told the other way round, i + told could wrap
            if (i < 0 || i >= row.size() - told) {
                return BEYOND_THE_ROW + told;
            }
            if (row.at(i + told) != b.readingAt(r)) {
                return told;
            }
            told++;
        }
        return told;
    }

    public int act(int kind, int act, int x) {
        return acts.begin(kind, act, x, bargainCount, lawCount);
    }

    public int trace(int i) {
        return acts.keptBody(i);
    }

    public int taken(int kind, int k) {
        if (!isKind(k)) {
            return BAD;
        }
        if (!isKind(kind)) {
            return NOTHING;
        }
        int at = kind;
        for (int ups = 0; ups < KINDS && at != k; ups++) {
            at = kindAbove(at);
        }
        return at == k ? kind : CAST;
    }

    public int count(int what) {
        switch (what) {
            case 0: return bargainCount;
            case 1: return lawCount;
            case 2: return waiting.size();
            case 3: return acts.ran();
            default: return BAD;
        }
    }

    public int tape(int tape, int sort, int n) {
        Tape row = tapeOf(tape);
        if (row == null) {
            return NONE;
        }
        if (sort == Tape.EMPTY) {
            row.become(Tape.EMPTY, 0);
            return 1;
        }
        if (sort < 0 || sort > Tape.BOOLEANS || n > TAPE_MOST) {
            return BAD;
        }
        if (n < 0) {
            return SIZE;
        }
        row.become(sort, n);
        return 1;
    }

    public int item(int tape, int i, long v) {
        Tape row = tapeOf(tape);
        if (row == null) {
            return NONE;
        }
        if (!row.holds()) {
            return NOTHING;
        }
        if (i < 0 || i >= row.size()) {
            return PLACE;
        }
        row.put(i, v);
        return 1;
    }

    public long read(int tape, int i) {
        Tape row = tapeOf(tape);
        if (row == null || i < 0 || i >= row.size()) {
            return NO;
        }
        return row.at(i);
    }

    public int shift(int tape, int i, int other, int j, int n) {
        Tape from = tapeOf(tape);
        Tape to = tapeOf(other);
        if (from == null || to == null) {
            return NONE;
        }
        if (!from.holds() || !to.holds()) {
            return NOTHING;
        }
        if (from.sort() != to.sort()) {
            return CAST;
        }
        // i + n and j + n could wrap, so what remains behind i and j is looked at
        if (n < 0 || i < 0 || j < 0 || n > from.size() - i || n > to.size() - j) {
            return PLACE;
        }
        to.copyFrom(from, i, j, n);
        return n;
    }

    // ---- what the calls share

    private Bargain bargainOf(int number) {
        return number >= 0 && number < bargains.length ? bargains[number] : null;
    }

    private Law lawOf(int number) {
        return number >= 0 && number < laws.length ? laws[number] : null;
    }

    private Tape tapeOf(int number) {
        return number >= 0 && number < tapes.length ? tapes[number] : null;
    }

    private int addBargain() {
        int number = bargainCount;
        if (number >= 0 && number < bargains.length) {
            bargains[number] = new Bargain(waiting);
            bargainCount++;
        }
        return number;
    }

    private int addLaw() {
        int number = lawCount;
        if (number >= 0 && number < laws.length) {
            laws[number] = lawReader.lawRead();
            lawCount++;
        }
        return number;
    }

    private static boolean isKind(int kind) {
        return kind >= 0 && kind < KINDS;
    }

    private static int kindAbove(int kind) {
        return kind >= 0 && kind < KIND_ABOVE.length ? KIND_ABOVE[kind] : -1;
    }

    private boolean isLet(int kind, Bargain b, int set) {
        switch (kind) {
            case STRIKE: return true;
            case WORDS: return true;
            case ITEMS: return b.isOfItems(set);
            case CLAUSES: return b.isOfClauses(set);
            case NUMBERS: return b.isOfNumbers(set);
            // one more than all bits up to a place has none of them
            case ALL: return (set & set + 1) == 0;
            case SENSE: return keepsSense(b, set);
            default: return false;
        }
    }

    private boolean keepsSense(Bargain b, int set) {
        if (!b.isReadable(0) || !b.isReadable(set)) {
            return false;
        }
        b.tellDuties(set, left);
        return left.isAllIn(b.whole());
    }

    /** Whether a set is GOOD after which it READS: only such are looked through. */
    private boolean isGood(int kind, Bargain b, Law l, int set) {
        if (!isLet(kind, b, set)) {
            return false;
        }
        if (l.hasSense() && !keepsSense(b, set)) {
            return false;
        }
        b.tellDuties(set, left);
        return l.allows(left, 0);
    }

    private int weightFor(Bargain b, int set, int who) {
        b.tellDuties(set, left);
        if (who != BOTH) {
            return left.costFor(who, prices);
        }
        return Math.abs(left.costFor(0, prices) - left.costFor(1, prices));
    }

    private int aloneDuties(int kind, Bargain b) {
        int fallen = 0;
        for (int r = 0; r < b.readings(); r++) {
            int set = b.readingAt(r);
            if (!isLet(kind, b, set)) {
                continue;
            }
            b.tellDuties(set, left);
            for (int duty = 0; duty < b.whole().size(); duty++) {
                if (left.isAllBut(b.whole(), duty)) {
                    fallen |= 1 << duty;
                }
            }
        }
        return fallen;
    }

    private static int pairsOf(int n) {
        return n * (n - 1) / 2;
    }

    /** THE TEXT: bytes that wait for what they are to be. */
    private static final class Text {
        private final int[] bytes = new int[TEXT_MOST];
        private int size;

        int size() {
            return size;
        }

        void add(int oneByte) {
            if (size >= 0 && size < bytes.length) {
                bytes[size] = oneByte;
                size++;
            }
        }

        /** The byte at a place; -1 where there is none, which no grammar begins with. */
        int at(int place) {
            return place >= 0 && place < size && place < bytes.length ? bytes[place] : -1;
        }

        /** Copies all its bytes to a row's beginning, as far as the row goes, and tells how many. */
        int copyTo(int[] row) {
            int copied = Math.max(0, Math.min(size, Math.min(bytes.length, row.length)));
            System.arraycopy(bytes, 0, row, 0, copied);
            return copied;
        }

        void clear() {
            size = 0;
        }

        static boolean isFigure(int oneByte) {
            return oneByte >= '0' && oneByte <= '9';
        }
    }

    /** A BARGAIN's WORDS, with all sets after which they READ. */
    private static final class Bargain {
        // how far a CLAUSE has come; from AFTER_THING on the row may end
        private static final int DEAD = -1, AT_CLAUSE = 0, AFTER_WHO = 1, AFTER_VERB = 2, AFTER_NOT = 3;
        private static final int AFTER_AND = 4, AFTER_COMMA = 5, AFTER_THING = 6, AFTER_LAST_THING = 7;
        private static final int AFTER_FAR = 8, AT_CLAUSE_END = 9;

        /** Each WORD: 100 times its letter, and its figure. */
        private final int[] words;
        /** For each set, how far what is left comes. */
        private final byte[] states;
        private final int[] readings;
        private final Duties whole = new Duties();

        /** Made from a text that has no fault. */
        Bargain(Text text) {
            words = wordsOf(text);
            states = statesOf(words);
            readings = readingsOf(states);
            if (isReadable(0)) {
                tellDuties(0, whole);
            }
        }

        /** The FAULT of a text as a BARGAIN; -1: none. */
        static int faultOf(Text text) {
            int place = 0;
            for (int word = 0; word < WORDS_MOST; word++) {
                int letter = text.at(place);
                if (!isLetter(letter)) {
                    return place;
                }
                place++;
                if (takesFigure(letter)) {
                    if (!Text.isFigure(text.at(place))) {
                        return place;
                    }
                    place++;
                }
                if (place >= text.size()) {
                    return -1;
                }
            }
            return place;
        }

        private static boolean isLetter(int oneByte) {
            switch (oneByte) {
                case 'a': case 'b': case 'm': case 'y': case 'n': case '&': case ',': case ';': return true;
                default: return takesFigure(oneByte);
            }
        }

        private static boolean takesFigure(int oneByte) {
            return oneByte == 'w' || oneByte == 'i' || oneByte == 'f' || oneByte == 'p';
        }

        private static int[] wordsOf(Text text) {
            int size = 0;
            for (int place = 0; place < text.size() && size < WORDS_MOST; place++) {
                size += Text.isFigure(text.at(place)) ? 0 : 1;
            }
            int[] words = new int[size];
            int last = -1;
            for (int place = 0; place < text.size(); place++) {
                int oneByte = text.at(place);
                if (!Text.isFigure(oneByte)) {
                    last++;
                }
                if (last >= 0 && last < words.length) {
                    words[last] += Text.isFigure(oneByte) ? oneByte - '0' : 100 * oneByte;
                }
            }
            return words;
        }

        /** WORD by WORD: each set of the WORDS before it, with it struck and with it left. */
        private static byte[] statesOf(int[] words) {
            byte[] states = new byte[1 << Math.min(words.length, WORDS_MOST)];
            for (int w = 0; w < words.length && w < WORDS_MOST; w++) {
                int struck = 1 << w;
                for (int set = 0; set < struck && struck + set < states.length; set++) {
                    states[struck + set] = states[set];
                    states[set] = (byte) stateAfter(states[set], words[w] / 100);
                }
            }
            return states;
        }

        private static int[] readingsOf(byte[] states) {
            int size = 0;
            for (int set = 0; set < states.length; set++) {
                size += states[set] >= AFTER_THING ? 1 : 0;
            }
            int[] readings = new int[size];
            int told = 0;
            for (int set = 0; set < states.length; set++) {
                if (states[set] >= AFTER_THING && told < readings.length) {
                    readings[told] = set;
                    told++;
                }
            }
            return readings;
        }

        private static int stateAfter(int state, int letter) {
            switch (letter) {
                case 'a': case 'b': return state == AT_CLAUSE ? AFTER_WHO : DEAD;
                case 'm': case 'y': return state == AFTER_WHO ? AFTER_VERB : DEAD;
                case 'n': return state == AFTER_VERB ? AFTER_NOT : DEAD;
                case 'p': return state == AFTER_VERB ? AT_CLAUSE_END : DEAD;
                case 'w': return stateAfterThing(state);
                case '&': return state == AFTER_THING ? AFTER_AND : DEAD;
                case ',': return state == AFTER_THING ? AFTER_COMMA : DEAD;
                case 'i': return state == AFTER_THING || state == AFTER_LAST_THING ? AFTER_FAR : DEAD;
                case 'f': return state >= AFTER_THING && state < AT_CLAUSE_END ? AT_CLAUSE_END : DEAD;
                case ';': return state >= AFTER_THING ? AT_CLAUSE : DEAD;
                default: return DEAD;
            }
        }

        private static int stateAfterThing(int state) {
            if (state == AFTER_AND) {
                return AFTER_LAST_THING;
            }
            return state == AFTER_VERB || state == AFTER_NOT || state == AFTER_COMMA ? AFTER_THING : DEAD;
        }

        int size() {
            return words.length;
        }

        int wordAt(int i) {
            return i >= 0 && i < words.length ? words[i] : 0;
        }

        int sets() {
            return states.length;
        }

        boolean hasSet(int set) {
            return set >= 0 && set < states.length;
        }

        boolean isReadable(int set) {
            return set >= 0 && set < states.length && states[set] >= AFTER_THING;
        }

        int readings() {
            return readings.length;
        }

        int readingAt(int i) {
            return i >= 0 && i < readings.length ? readings[i] : 0;
        }

        Duties whole() {
            return whole;
        }

        /** What is left after a set MEANS; it must READ. */
        void tellDuties(int set, Duties into) {
            into.clear();
            int whose = 0;
            int must = 0;
            int not = 0;
            int first = 0;
            for (int w = 0; w < words.length; w++) {
                if ((set >> w & 1) != 0) {
                    continue;
                }
                int figure = words[w] % 100;
                switch (words[w] / 100) {
                    case 'a': whose = 0; not = 0; first = into.size(); break;
                    case 'b': whose = 1; not = 0; first = into.size(); break;
                    case 'm': must = 1; break;
                    case 'y': must = 0; break;
                    case 'n': not = 1; break;
                    case 'w': into.addThing(whose, must, not, figure); break;
                    case 'p': into.addPay(whose, must, figure); break;
                    case 'i': into.setFar(first, figure); break;
                    case 'f': into.setLong(first, figure); break;
                    default: break;
                }
            }
        }

        boolean isOfItems(int set) {
            for (int w = 0; w < words.length; w++) {
                int letter = words[w] / 100;
                if ((set >> w & 1) != 0 && letter != 'w' && letter != '&' && letter != ',') {
                    return false;
                }
            }
            return true;
        }

        boolean isOfNumbers(int set) {
            for (int w = 0; w < words.length; w++) {
                int letter = words[w] / 100;
                if ((set >> w & 1) != 0 && letter != 'i' && letter != 'f') {
                    return false;
                }
            }
            return true;
        }

        /** Two neighbours, neither of them an END, are struck or left together. */
        boolean isOfClauses(int set) {
            for (int w = 1; w < words.length; w++) {
                boolean ofOneRun = words[w] / 100 != ';' && words[w - 1] / 100 != ';';
                if (ofOneRun && (set >> w & 1) != (set >> w - 1 & 1)) {
                    return false;
                }
            }
            return true;
        }
    }

    /** A row of DUTIES, each of them one number of six digits of base 32. */
    private static final class Duties {
        private static final int WHOSE = 25, MUST = 20, NOT = 15, THING = 10, FAR = 5, LONG = 0;
        private static final int DIGIT = 31;
        private static final int UNTOLD = 10, PAY = 10;

        private final int[] rows = new int[WORDS_MOST];
        private int size;

        int size() {
            return size;
        }

        int at(int i) {
            return i >= 0 && i < size && i < rows.length ? rows[i] : 0;
        }

        static int digit(int duty, int which) {
            return duty >> which & DIGIT;
        }

        void clear() {
            size = 0;
        }

        void addThing(int whose, int must, int not, int figure) {
            int person = whose << WHOSE | must << MUST | not << NOT;
            add(person | figure << THING | UNTOLD << FAR | UNTOLD << LONG);
        }

        void addPay(int whose, int must, int figure) {
            add(whose << WHOSE | must << MUST | PAY + figure << THING);
        }

        private void add(int duty) {
            if (size >= 0 && size < rows.length) {
                rows[size] = duty;
                size++;
            }
        }

        void setFar(int first, int figure) {
            setDigit(first, FAR, figure);
        }

        void setLong(int first, int figure) {
            setDigit(first, LONG, figure);
        }

        private void setDigit(int first, int which, int figure) {
            for (int i = Math.max(first, 0); i < size && i < rows.length; i++) {
                rows[i] = rows[i] & ~(DIGIT << which) | figure << which;
            }
        }

        boolean isSameAs(Duties other) {
            if (size != other.size) {
                return false;
            }
            for (int i = 0; i < size; i++) {
                if (at(i) != other.at(i)) {
                    return false;
                }
            }
            return true;
        }

        /** Whether these are those of another row, in their order, without the one at a place. */
        boolean isAllBut(Duties other, int place) {
            if (size != other.size - 1) {
                return false;
            }
            for (int i = 0; i < size; i++) {
                if (at(i) != other.at(i < place ? i : i + 1)) {
                    return false;
                }
            }
            return true;
        }

        boolean isAllIn(Duties other) {
            for (int i = 0; i < size; i++) {
                if (!other.contains(at(i))) {
                    return false;
                }
            }
            return true;
        }

        private boolean contains(int duty) {
            for (int i = 0; i < size; i++) {
                if (at(i) == duty) {
                    return true;
                }
            }
            return false;
        }

        int paidTo(int who) {
            int paid = 0;
            for (int i = 0; i < size; i++) {
                int duty = at(i);
                boolean ofTheOther = digit(duty, WHOSE) != who && digit(duty, MUST) == 1;
                if (ofTheOther && digit(duty, THING) >= PAY) {
                    paid += digit(duty, THING) - PAY;
                }
            }
            return paid;
        }

        /** Whether one has a DUTY that he must, no NOT. */
        boolean isGivenBy(int who) {
            for (int i = 0; i < size; i++) {
                int duty = at(i);
                if (digit(duty, WHOSE) == who && digit(duty, MUST) == 1 && digit(duty, NOT) == 0) {
                    return true;
                }
            }
            return false;
        }

        int longsOfNots() {
            int longs = 0;
            for (int i = 0; i < size; i++) {
                longs += digit(at(i), NOT) == 1 ? digit(at(i), LONG) : 0;
            }
            return longs;
        }

        int costFor(int who, int[] prices) {
            return burdenOf(who, prices) - burdenOf(1 - who, prices) / 2;
        }

        private int burdenOf(int who, int[] prices) {
            int burden = 0;
            for (int i = 0; i < size; i++) {
                int duty = at(i);
                if (digit(duty, WHOSE) == who && digit(duty, MUST) == 1) {
                    burden += burdenOfDuty(duty, prices);
                }
            }
            return burden;
        }

        private static int burdenOfDuty(int duty, int[] prices) {
            int thing = digit(duty, THING);
            if (thing >= PAY) {
                return 10 * (thing - PAY);
            }
            int priced = thing < prices.length ? prices[thing] : 0;
            int lasting = priced * digit(duty, LONG);
            return digit(duty, NOT) == 1 ? lasting * digit(duty, FAR) : lasting;
        }
    }

    /** A LAW: its bars as one row of steps that leave whether one of them holds. */
    private static final class Law {
        // steps below 0 join what is there already, all others are TESTS
        private static final int NOT = -1, AND = -2, OR = -3;
        private static final int NUMBER_BITS = 10, NUMBER_MASK = 1023, SIGN_BITS = 8, SIGN_MASK = 255;
        private static final int DIGITS = 6, DIGIT_BITS = 5;
        private static final int NO_MOST = -1;

        private final int[] steps;
        private final boolean give;
        private final boolean sense;
        /** The least n of all its mosts: who keeps that keeps each. */
        private final int most;

        Law(int[] steps, boolean give, boolean sense, int most) {
            this.steps = steps;
            this.give = give;
            this.sense = sense;
            this.most = most;
        }

        boolean hasSense() {
            return sense;
        }

        /** A TEST as a step: which of its letters, its sign, its number. */
        static int testStep(int letter, int sign, int number) {
            return (letter << SIGN_BITS | sign) << NUMBER_BITS | number;
        }

        /** Whether DUTIES are LAWFUL if so much is added to each most. */
        boolean allows(Duties duties, int added) {
            if (most != NO_MOST && duties.longsOfNots() > most + added) {
                return false;
            }
            if (give && !(duties.isGivenBy(0) && duties.isGivenBy(1))) {
                return false;
            }
            return barredDuties(duties) == 0;
        }

        int barredDuties(Duties duties) {
            int paidToA = duties.paidTo(0);
            int paidToB = duties.paidTo(1);
            int bits = 0;
            for (int i = 0; i < duties.size(); i++) {
                int duty = duties.at(i);
                int paid = Duties.digit(duty, Duties.WHOSE) == 0 ? paidToA : paidToB;
                if (bars(duty, paid)) {
                    bits |= 1 << i;
                }
            }
            return bits;
        }

        /** What is open stands in bits, the latest lowest: 4 nestings leave some twelve open at most. */
        private boolean bars(int duty, int paid) {
            int open = 0;
            for (int i = 0; i < steps.length; i++) {
                int latest = open & 1;
                switch (steps[i]) {
                    case NOT: open ^= 1; break;
                    case AND: open = open >> 1 & (~1 | latest); break;
                    case OR: open = open >> 1 | latest; break;
                    default: open = open << 1 | (holds(steps[i], duty, paid) ? 1 : 0); break;
                }
            }
            return (open & 1) == 1;
        }

        private static boolean holds(int test, int duty, int paid) {
            int letter = test >> NUMBER_BITS + SIGN_BITS;
            int number = test & NUMBER_MASK;
            int value = letter < DIGITS ? Duties.digit(duty, DIGIT_BITS * (DIGITS - 1 - letter)) : paid;
            switch (test >> NUMBER_BITS & SIGN_MASK) {
                case '<': return value < number;
                case '=': return value == number;
                default: return value > number;
            }
        }
    }

    /** Reads a text as a LAW, the same rows for all texts, to spare the room. */
    private static final class LawReader {
        private static final int CLAUSES_MOST = 8, NESTED_MOST = 4, FIGURES_MOST = 3;
        /** The letters of TESTS: those of a DUTY's digits as they stand, and then p. */
        private static final String LETTERS = "wvntifp";

        private final int[] bytes = new int[TEXT_MOST];
        private final int[] steps = new int[TEXT_MOST];
        private int size;
        private int stepCount;
        private int place;
        private int number;
        private int bars;
        private boolean give;
        private boolean sense;
        private int most;

        /** The FAULT of a text as a LAW; -1: none. */
        int faultOf(Text waiting) {
            size = waiting.copyTo(bytes);
            place = 0;
            stepCount = 0;
            bars = 0;
            give = false;
            sense = false;
            most = Law.NO_MOST;
            for (int clauses = 1; clauses <= CLAUSES_MOST; clauses++) {
                if (!clause()) {
                    return place;
                }
                if (at() < 0) {
                    return -1;
                }
                if (clauses == CLAUSES_MOST || !sign(';')) {
                    return place;
                }
            }
            return place;
        }

        /** The LAW that was read without a fault just now. */
        Law lawRead() {
            int[] itsSteps = new int[Math.max(0, Math.min(stepCount, steps.length))];
            System.arraycopy(steps, 0, itsSteps, 0, itsSteps.length);
            return new Law(itsSteps, give, sense, most);
        }

        // What follows steps over what it names and says true; or it says false, and the place is the FAULT.

        private int at() {
            return place >= 0 && place < size && place < bytes.length ? bytes[place] : -1;
        }

        private boolean clause() {
            switch (at()) {
                case 'b': return name("bar ") && either(0) && barEnds();
                case 'g': give = true; return name("give");
                case 'm': return name("most ") && figures() && mostEnds();
                case 's': sense = true; return name("sense");
                default: return false;
            }
        }

        private boolean barEnds() {
            bars++;
            if (bars > 1) {
                addStep(Law.OR);
            }
            return true;
        }

        private boolean mostEnds() {
            most = most == Law.NO_MOST ? number : Math.min(most, number);
            return true;
        }

        private boolean name(String letters) {
            for (int i = 0; i < letters.length(); i++) {
                if (!sign(letters.charAt(i))) {
                    return false;
                }
            }
            return true;
        }

        private boolean sign(int oneByte) {
            if (at() != oneByte) {
                return false;
            }
            place++;
            return true;
        }

        /** An E in one go: & joins at once, | only when the T behind it has ended. */
        private boolean either(int nested) {
            boolean joinsWithAnd = false;
            boolean joinsWithOr = false;
            for (int parts = 0; parts < TEXT_MOST; parts++) {
                if (!part(nested)) {
                    return false;
                }
                if (joinsWithAnd) {
                    addStep(Law.AND);
                }
                joinsWithAnd = sign('&');
                if (joinsWithAnd) {
                    continue;
                }
                if (joinsWithOr) {
                    addStep(Law.OR);
                }
                joinsWithOr = sign('|');
                if (!joinsWithOr) {
                    return true;
                }
            }
            return false;
        }

        private boolean part(int nested) {
            int oneByte = at();
            if (oneByte != '!' && oneByte != '(') {
                return test();
            }
            if (nested >= NESTED_MOST) {
                return false;
            }
            place++;
            if (oneByte == '(') {
                return either(nested + 1) && sign(')');
            }
            return part(nested + 1) && addStep(Law.NOT);
        }

        private boolean test() {
            int letter = at() < 0 ? -1 : LETTERS.indexOf((char) at());
            if (letter < 0) {
                return false;
            }
            place++;
            int compared = at();
            if (compared != '<' && compared != '=' && compared != '>') {
                return false;
            }
            place++;
            return figures() && addStep(Law.testStep(letter, compared, number));
        }

        private boolean figures() {
            number = 0;
            int told = 0;
            while (told < FIGURES_MOST && Text.isFigure(at())) {
                number = 10 * number + at() - '0';
                place++;
                told++;
            }
            return told > 0;
        }

        private boolean addStep(int step) {
            if (stepCount >= 0 && stepCount < steps.length) {
                steps[stepCount] = step;
                stepCount++;
            }
            return true;
        }
    }

    /** ACTS of STRIKES, with THE TRACE of the latest. */
    private static final class Acts {
        private static final int STRIKES = 0, LEAVES = 1, TELLS = 2, ACTS = 3;
        private static final int TRACE_MOST = 20, DEPTH_MOST = 30;
        /** For each KIND its own bodies that strike, leave, tell; 0: none. */
        private static final int[] BODIES = {
            10, 11, 12, 20, 0, 0, 0, 30, 0, 0, 41, 40, 0, 50, 0, 61, 0, 60, 0, 0, 70,
        };

        private final int[] kept = new int[TRACE_MOST];
        private int ran;
        private int self;
        private int n;
        private int m;

        int begin(int kind, int act, int x, int bargains, int laws) {
            ran = 0;
            if (!isKind(kind) || act < 0 || act >= ACTS) {
                return 0;
            }
            self = kind;
            n = bargains;
            m = laws;
            return run(act, kind, x, 0);
        }

        int ran() {
            return ran;
        }

        int keptBody(int i) {
            return i >= 0 && i < ran && i < kept.length ? kept[i] : NONE;
        }

        private void keep(int body) {
            if (ran >= 0 && ran < kept.length) {
                kept[ran] = body;
            }
            ran++;
        }

        private static int bodyFrom(int kind, int act) {
            int at = kind;
            for (int ups = 0; ups < KINDS; ups++) {
                int place = ACTS * at + act;
                if (at < 0 || place < 0 || place >= BODIES.length) {
                    return 0;
                }
                if (BODIES[place] != 0) {
                    return BODIES[place];
                }
                at = kindAbove(at);
            }
            return 0;
        }

        /** The body of an ACT that stands first from a KIND on upwards. */
        private int run(int act, int from, int x, int depth) {
            if (depth > DEPTH_MOST) {
                return 0;
            }
            int body = bodyFrom(from, act);
            keep(body);
            int deeper = depth + 1;
            switch (body) {
                case 10: return x + n;
                case 11: return run(STRIKES, self, x, deeper) - m;
                case 12: return run(LEAVES, self, x, deeper) * 2;
                case 20: return run(STRIKES, STRIKE, x * 3, deeper);
                case 30: return run(LEAVES, STRIKE, x, deeper) ^ 5;
                case 40: return run(TELLS, STRIKE, x, deeper) + run(STRIKES, self, 1, deeper);
                case 41: return -run(LEAVES, STRIKE, x, deeper);
                case 50: return run(LEAVES, WORDS, x, deeper) + run(STRIKES, WORDS, 2, deeper);
                case 60: return run(LEAVES, self, x, deeper) - run(TELLS, CLAUSES, x, deeper);
                case 61: return run(STRIKES, CLAUSES, x, deeper) ^ m;
                case 70: return run(TELLS, WORDS, x - n, deeper);
                default: return 0;
            }
        }
    }

    /** A TAPE: nothing, or a row of one sort, each item kept as a long that its sort can hold. */
    private static final class Tape {
        private static final int EMPTY = -1, BYTES = 0, SHORTS = 1, INTS = 2, LONGS = 3, BOOLEANS = 4;

        private final long[] items = new long[TAPE_MOST];
        private int sort = EMPTY;
        private int size;

        boolean holds() {
            return sort != EMPTY;
        }

        int sort() {
            return sort;
        }

        int size() {
            return size;
        }

        void become(int newSort, int newSize) {
            sort = newSort;
            size = newSize;
            for (int i = 0; i < items.length; i++) {
                items[i] = 0;
            }
        }

        long at(int i) {
            return i >= 0 && i < size && i < items.length ? items[i] : 0;
        }

        void put(int i, long v) {
            if (i >= 0 && i < size && i < items.length) {
                items[i] = asItem(v);
            }
        }

        private long asItem(long v) {
            switch (sort) {
                case BYTES: return (byte) v;
                case SHORTS: return (short) v;
                case INTS: return (int) v;
                case LONGS: return v;
                default: return v != 0 ? 1 : 0;
            }
        }

        void copyFrom(Tape other, int i, int j, int n) {
            boolean inside = n >= 0 && i >= 0 && j >= 0 && n <= other.items.length - i && n <= items.length - j;
            if (inside) {
                System.arraycopy(other.items, i, items, j, n);
            }
        }
    }
}
