import java.util.Arrays;

/** Finds how many letters ahead a grammar needs; README.md tells how it is used. */
public final class LookaheadDepths {
    public static final int BAD = -1, STATE = -2, FULL = -3, NONE = -9;

    private static final int LETTERS = 5;
    private static final int NONTERMINALS = 6;
    private static final int MOST_PRODUCTIONS = 16;
    private static final int MOST_SYMBOLS = 5;
    private static final int MOST_BYTES = 100;
    private static final int MOST_INPUT = 8;
    private static final int MOST_AHEAD = 3;
    private static final int MOST_REMEMBERED = 4;
    private static final int MOST_CHOSEN = 60;
    private static final int MOST_STEPS = 200;
    private static final int MOST_DERIVATIONS = 1000000000;

    /** symbol() tells nonterminals as numbers from here on; the class keeps them so inside, too. */
    private static final int FIRST_NONTERMINAL = 10;
    private static final int FAILED = -10;
    private static final int NO_INPUT = -100;

    private static final int WORD_BASE = 6;
    /** The numbers of words with at most k letters are smaller than entry k. */
    private static final int[] WORD_LIMITS = {1, 6, 36, 216};

    private final Text text = new Text();
    private final Reader reader = new Reader();
    private final History history = new History();
    private final Traits traits = new Traits();
    private final Foresight foresight = new Foresight();
    private final Predictor predictor = new Predictor();
    private final Derivations inputs = new Derivations();
    private final Ambiguity ambiguity = new Ambiguity();
    private Grammar grammar = new Grammar();

    public LookaheadDepths() {
        grammar.open(0);
        study();
    }

    // ---- texts

    public int type(int c) {
        if (c < 33 || c > 126) {
            return BAD;
        }
        if (text.size() >= MOST_BYTES) {
            return FULL;
        }
        text.append(c);
        inputs.forget();
        return text.size();
    }

    public int clear() {
        int had = text.size();
        text.drop();
        inputs.forget();
        return had;
    }

    public int load() {
        reader.read(text);
        if (reader.kind() != NONE) {
            return FAILED - reader.position();
        }
        grammar = reader.exchange(history.remember(grammar));
        study();
        return grammar.count();
    }

    public int fault() {
        return reader.kind();
    }

    // ---- the grammar

    public int production(int p, int what) {
        if (!grammar.has(p) || what < 0 || what > 1) {
            return BAD;
        }
        return what == 0 ? grammar.left(p) : grammar.length(p);
    }

    public int symbol(int p, int i) {
        if (!grammar.has(p) || i < 0) {
            return BAD;
        }
        return i < grammar.length(p) ? grammar.symbolAt(p, i) : NONE;
    }

    public int nonterminal(int x, int what) {
        if (x < 0 || x >= NONTERMINALS || what < 0 || what > 7) {
            return BAD;
        }
        switch (what) {
            case 0:
                return bit(grammar.defined(), x);
            case 1:
                return traits.fewest(x) == 0 ? 1 : 0;
            case 2:
                return traits.fewest(x) < Traits.NEVER ? 1 : 0;
            case 3:
                return bit(traits.reachable(), x);
            case 4:
                return bit(traits.recursive(), x);
            case 5:
                return bit(traits.cyclic(), x);
            case 6:
                return grammar.end(x) - grammar.begin(x);
            default:
                return traits.fewest(x) < Traits.NEVER ? traits.fewest(x) : NONE;
        }
    }

    // ---- words ahead

    public int first(int x, int k, int word) {
        if (!isDefined(x) || !isWord(word, k)) {
            return BAD;
        }
        return foresight.firstOf(x).has(word, k) ? 1 : 0;
    }

    public int follow(int x, int k, int word) {
        if (!isDefined(x) || !isWord(word, k)) {
            return BAD;
        }
        return foresight.followOf(x).has(word, k) ? 1 : 0;
    }

    public int ahead(int p, int k, int word) {
        if (!grammar.has(p) || !isWord(word, k)) {
            return BAD;
        }
        return foresight.aheadOf(p).has(word, k) ? 1 : 0;
    }

    public int words(int kind, int n, int k) {
        if (kind < 0 || kind > 2 || !isLookahead(k)) {
            return BAD;
        }
        if (kind == 2 ? !grammar.has(n) : !isDefined(n)) {
            return BAD;
        }
        if (kind == 0) {
            return foresight.firstOf(n).size(k);
        }
        return kind == 1 ? foresight.followOf(n).size(k) : foresight.aheadOf(n).size(k);
    }

    public int word(int p, int k, int i) {
        if (!grammar.has(p) || !isLookahead(k) || i < 0) {
            return BAD;
        }
        WordSet set = foresight.aheadOf(p);
        int before = 0;
        for (int word = 0; word < WORD_LIMITS[k]; word++) {
            if (isWord(word, k) && set.has(word, k)) {
                if (before == i) {
                    return word;
                }
                before++;
            }
        }
        return NONE;
    }

    public int marks(int p, int i) {
        if (!grammar.has(p) || i < 0 || i >= MOST_AHEAD) {
            return BAD;
        }
        return foresight.aheadOf(p).marksAt(i);
    }

    // ---- depths and clashes

    public int depth(int x) {
        return isDefined(x) ? foresight.depthOf(x) : BAD;
    }

    public int approximate(int x) {
        return isDefined(x) ? foresight.roughDepthOf(x) : BAD;
    }

    public int deepest(boolean approximate) {
        int most = 0;
        for (int x = 0; x < NONTERMINALS; x++) {
            if (isDefined(x)) {
                int own = approximate ? foresight.roughDepthOf(x) : foresight.depthOf(x);
                if (own == NONE) {
                    return NONE;
                }
                most = Math.max(most, own);
            }
        }
        return most;
    }

    public int clash(int x, int k) {
        if (!isDefined(x) || !isLookahead(k)) {
            return BAD;
        }
        return foresight.firstClash(grammar, x, k);
    }

    public int clashWord(int p, int q, int k) {
        if (!grammar.has(p) || !grammar.has(q) || !isLookahead(k)) {
            return BAD;
        }
        WordSet one = foresight.aheadOf(p);
        WordSet other = foresight.aheadOf(q);
        for (int word = 0; word < WORD_LIMITS[k]; word++) {
            if (isWord(word, k) && one.has(word, k) && other.has(word, k)) {
                return word;
            }
        }
        return NONE;
    }

    // ---- inputs

    public int parse() {
        predictor.forget();
        if (deepest(false) == NONE || traits.recursesReachably()) {
            return STATE;
        }
        int wrong = text.inputFault();
        if (wrong != NONE) {
            return NO_INPUT - wrong;
        }
        return predictor.run(grammar, foresight, text);
    }

    public int chosen(int i) {
        if (i < 0) {
            return BAD;
        }
        return i < predictor.count() ? predictor.choice(i) : NONE;
    }

    public int derivations() {
        if (traits.cyclesReachably()) {
            return STATE;
        }
        int wrong = text.inputFault();
        if (wrong != NONE) {
            return NO_INPUT - wrong;
        }
        return inputs.total(grammar, traits, text);
    }

    public int step(int j, int i) {
        if (j < 0 || j > 1 || i < 0 || i >= MOST_STEPS) {
            return BAD;
        }
        int total = derivations();
        if (total < 0) {
            return total;
        }
        return inputs.stepAt(grammar, j, i);
    }

    public int ambiguous() {
        if (traits.cyclesReachably()) {
            return STATE;
        }
        return ambiguity.shortest(grammar, traits);
    }

    // ---- the whole

    public int told(int what) {
        switch (what) {
            case 0:
                return grammar.count();
            case 1:
                return grammar.start();
            case 2:
                return grammar.defined();
            case 3:
                return text.size();
            case 4:
                return history.count();
            case 5:
                return predictor.count();
            default:
                return BAD;
        }
    }

    public int undo() {
        if (history.count() == 0) {
            return STATE;
        }
        grammar = history.exchangeLatest(grammar);
        study();
        return history.count();
    }

    public long digest() {
        long h = 17313;
        for (int what = 0; what <= 5; what++) {
            h = 31 * h + told(what);
        }
        for (int p = 0; p < grammar.count(); p++) {
            h = mixProduction(h, p);
        }
        for (int x = 0; x < NONTERMINALS; x++) {
            if (isDefined(x)) {
                h = mixNonterminal(h, x);
            }
        }
        h = 31 * h + deepest(false);
        h = 31 * h + deepest(true);
        for (int i = 0; i < predictor.count(); i++) {
            h = 31 * h + predictor.choice(i);
        }
        return 31 * h + fault();
    }

    private long mixProduction(long before, int p) {
        long h = 31 * before + grammar.left(p);
        h = 31 * h + grammar.length(p);
        for (int i = 0; i < grammar.length(p); i++) {
            h = 31 * h + grammar.symbolAt(p, i);
        }
        for (int k = 0; k <= MOST_AHEAD; k++) {
            h = 31 * h + words(2, p, k);
        }
        for (int i = 0; i < MOST_AHEAD; i++) {
            h = 31 * h + marks(p, i);
        }
        return h;
    }

    private long mixNonterminal(long before, int x) {
        long h = 31 * before + x;
        for (int what = 1; what <= 7; what++) {
            h = 31 * h + nonterminal(x, what);
        }
        h = 31 * h + words(0, x, MOST_AHEAD);
        h = 31 * h + words(1, x, MOST_AHEAD);
        h = 31 * h + depth(x);
        h = 31 * h + approximate(x);
        return 31 * h + clash(x, MOST_AHEAD);
    }

    /** Finds at once what most calls ask of a grammar, so that none of them finds it again. */
    private void study() {
        traits.find(grammar);
        foresight.find(grammar);
        inputs.forget();
        ambiguity.forget();
    }

    private boolean isDefined(int x) {
        return x >= 0 && x < NONTERMINALS && bit(grammar.defined(), x) == 1;
    }

    private static boolean isLookahead(int k) {
        return k >= 0 && k <= MOST_AHEAD;
    }

    /** Whether a number is that of a word with at most k letters: no digit of it may be 0. */
    private static boolean isWord(int word, int k) {
        if (!isLookahead(k) || word < 0 || word >= WORD_LIMITS[k]) {
            return false;
        }
        int rest = word;
        for (int i = 0; i < MOST_AHEAD && rest > 0; i++) {
            if (rest % WORD_BASE == 0) {
                return false;
            }
            rest = rest / WORD_BASE;
        }
        return true;
    }

    private static boolean isLetter(int symbol) {
        return symbol < FIRST_NONTERMINAL;
    }

    private static int bit(int mask, int i) {
        return (mask >> i) & 1;
    }

    /** The text buffer. */
    private static final class Text {
        private final int[] bytes = new int[MOST_BYTES];
        private int size = 0;

        int size() {
            return size;
        }

        void append(int c) {
            if (size < MOST_BYTES) {
                bytes[size] = c;
                size++;
            }
        }

        void drop() {
            size = 0;
        }

        int at(int i) {
            return i >= 0 && i < size ? bytes[i] : NONE;
        }

        /** The letter at an index of an input; behind its end a number that no letter has. */
        int letterAt(int i) {
            return at(i) - 'a';
        }

        int inputFault() {
            for (int i = 0; i < size; i++) {
                if (i >= MOST_INPUT || bytes[i] < 'a' || bytes[i] >= 'a' + LETTERS) {
                    return i;
                }
            }
            return NONE;
        }
    }

    /** A grammar; the productions of a nonterminal stand together, as it has one rule at most. */
    private static final class Grammar {
        private final int[] lefts = new int[MOST_PRODUCTIONS];
        private final int[] lengths = new int[MOST_PRODUCTIONS];
        private final int[] symbols = new int[MOST_PRODUCTIONS * MOST_SYMBOLS];
        private final int[] begins = new int[NONTERMINALS];
        private final int[] ends = new int[NONTERMINALS];
        private int count = 0;
        private int defined = 0;

        void drop() {
            count = 0;
            defined = 0;
            Arrays.fill(begins, 0);
            Arrays.fill(ends, 0);
        }

        /** Adds a production with an empty right side; returns whether there was room for it. */
        boolean open(int left) {
            if (count >= MOST_PRODUCTIONS || left < 0 || left >= NONTERMINALS) {
                return false;
            }
            if (bit(defined, left) == 0) {
                defined |= 1 << left;
                begins[left] = count;
            }
            lefts[count] = left;
            lengths[count] = 0;
            count++;
            ends[left] = count;
            return true;
        }

        /** Adds a symbol to the right side of the latest production; returns whether there was room for it. */
        boolean append(int symbol) {
            int p = count - 1;
            if (p < 0 || lengths[p] >= MOST_SYMBOLS) {
                return false;
            }
            symbols[p * MOST_SYMBOLS + lengths[p]] = symbol;
            lengths[p]++;
            return true;
        }

        boolean has(int p) {
            return p >= 0 && p < count;
        }

        int count() {
            return count;
        }

        int defined() {
            return defined;
        }

        int start() {
            return lefts[0];
        }

        int left(int p) {
            return lefts[p];
        }

        int length(int p) {
            return lengths[p];
        }

        int symbolAt(int p, int i) {
            return symbols[p * MOST_SYMBOLS + i];
        }

        int begin(int x) {
            return begins[x];
        }

        int end(int x) {
            return ends[x];
        }
    }

    /** Reads a text as a grammar, byte by byte, up to the first fault. */
    private static final class Reader {
        private static final int AT_RULE = 0;
        private static final int AT_EQUALS = 1;
        private static final int AT_SYMBOL = 2;
        private static final int UNUSED = 1000;

        /** For each nonterminal where it first stands in a right side: fault 5 needs the place. */
        private final int[] firstUses = new int[NONTERMINALS];
        private Grammar into = new Grammar();
        private int kind = NONE;
        private int position = 0;
        private int place = AT_RULE;
        private int left = 0;

        int kind() {
            return kind;
        }

        int position() {
            return position;
        }

        /** Hands out the grammar that was read; the given one, not in use any more, takes the next one up. */
        Grammar exchange(Grammar unused) {
            Grammar done = into;
            into = unused;
            return done;
        }

        void read(Text text) {
            into.drop();
            kind = NONE;
            place = AT_RULE;
            Arrays.fill(firstUses, UNUSED);
            for (int i = 0; i < text.size() && kind == NONE; i++) {
                readByte(text.at(i), i);
            }
            if (kind == NONE && (place != AT_RULE || into.count() == 0)) {
                blame(1, text.size());
            }
            if (kind == NONE) {
                blameUndefined();
            }
        }

        private void blame(int faultKind, int at) {
            kind = faultKind;
            position = at;
        }

        private void readByte(int c, int i) {
            if (place == AT_RULE) {
                readLeft(c, i);
            } else if (place == AT_SYMBOL) {
                readRight(c, i);
            } else if (c == '=') {
                openAlternative(i);
            } else {
                blame(1, i);
            }
        }

        private void readLeft(int c, int i) {
            if (!isNonterminal(c)) {
                blame(1, i);
            } else if (bit(into.defined(), c - 'A') == 1) {
                blame(2, i);
            } else {
                left = c - 'A';
                place = AT_EQUALS;
            }
        }

        private void readRight(int c, int i) {
            if (c == '|') {
                openAlternative(i);
            } else if (c == ';') {
                place = AT_RULE;
            } else if (isNonterminal(c)) {
                firstUses[c - 'A'] = Math.min(firstUses[c - 'A'], i);
                readSymbol(FIRST_NONTERMINAL + c - 'A', i);
            } else if (c >= 'a' && c < 'a' + LETTERS) {
                readSymbol(c - 'a', i);
            } else {
                blame(1, i);
            }
        }

        private void readSymbol(int symbol, int i) {
            if (!into.append(symbol)) {
                blame(4, i);
            }
        }

        /** The fault of a 17th production is told at the byte behind the one that opens it. */
        private void openAlternative(int i) {
            place = AT_SYMBOL;
            if (!into.open(left)) {
                blame(3, i + 1);
            }
        }

        private void blameUndefined() {
            int earliest = UNUSED;
            for (int x = 0; x < NONTERMINALS; x++) {
                if (bit(into.defined(), x) == 0) {
                    earliest = Math.min(earliest, firstUses[x]);
                }
            }
            if (earliest != UNUSED) {
                blame(5, earliest);
            }
        }

        private static boolean isNonterminal(int c) {
            return c >= 'A' && c < 'A' + NONTERMINALS;
        }
    }

    /** The remembered grammars. All its places hold grammars from the first, those not in use as spare ones. */
    private static final class History {
        private final Grammar[] places = new Grammar[MOST_REMEMBERED];
        private int count = 0;

        History() {
            for (int i = 0; i < MOST_REMEMBERED; i++) {
                places[i] = new Grammar();
            }
        }

        int count() {
            return count;
        }

        /** Remembers a grammar; returns one that is not in use any more. */
        Grammar remember(Grammar latest) {
            if (count < MOST_REMEMBERED) {
                Grammar unused = places[count];
                places[count] = latest;
                count++;
                return unused;
            }
            Grammar oldest = places[0];
            for (int i = 1; i < MOST_REMEMBERED; i++) {
                places[i - 1] = places[i];
            }
            places[MOST_REMEMBERED - 1] = latest;
            return oldest;
        }

        /** Takes the latest grammar out; the given one becomes spare in its place. */
        Grammar exchangeLatest(Grammar unused) {
            if (count == 0) {
                return unused;
            }
            count--;
            Grammar latest = places[count];
            places[count] = unused;
            return latest;
        }
    }

    /** What the nonterminals of a grammar are like, apart from any words ahead. */
    private static final class Traits {
        /** Above all numbers of letters: five to the sixth power is the greatest one. */
        static final int NEVER = 1000000;
        private static final int TAILS = MOST_SYMBOLS + 1;

        private final int[] fewest = new int[NONTERMINALS];
        /** The fewest letters of the words that are derived from the symbols i and later of each right side. */
        private final int[] tails = new int[MOST_PRODUCTIONS * TAILS];
        /** For each nonterminal those that sequences derived from it begin with, as a bit mask. */
        private final int[] leading = new int[NONTERMINALS];
        /** For each nonterminal those that are derived from it with nothing else, as a bit mask. */
        private final int[] alone = new int[NONTERMINALS];
        private final int[] order = new int[NONTERMINALS];
        private int ordered = 0;
        private int letters = 0;
        private int reachable = 0;
        private int recursive = 0;
        private int cyclic = 0;

        int fewest(int x) {
            return fewest[x];
        }

        int tail(int p, int i) {
            return tails[p * TAILS + i];
        }

        int reachable() {
            return reachable;
        }

        int recursive() {
            return recursive;
        }

        int cyclic() {
            return cyclic;
        }

        boolean recursesReachably() {
            return (recursive & reachable) != 0;
        }

        boolean cyclesReachably() {
            return (cyclic & reachable) != 0;
        }

        /** The letters that stand in right sides, as a bit mask. */
        int letters() {
            return letters;
        }

        int ordered() {
            return ordered;
        }

        int inOrder(int i) {
            return order[i];
        }

        void find(Grammar grammar) {
            findFewest(grammar);
            findReachable(grammar);
            findRelations(grammar);
            recursive = findLoops(leading);
            cyclic = findLoops(alone);
            findOrder();
        }

        /** A shortest word needs no nonterminal inside itself, so a round for each is enough; one more settles the tails. */
        private void findFewest(Grammar grammar) {
            Arrays.fill(fewest, NEVER);
            for (int round = 0; round <= NONTERMINALS; round++) {
                for (int p = 0; p < grammar.count(); p++) {
                    findTails(grammar, p);
                    int x = grammar.left(p);
                    fewest[x] = Math.min(fewest[x], tail(p, 0));
                }
            }
        }

        private void findTails(Grammar grammar, int p) {
            int sum = 0;
            tails[p * TAILS + grammar.length(p)] = 0;
            for (int i = grammar.length(p) - 1; i >= 0; i--) {
                int symbol = grammar.symbolAt(p, i);
                int own = isLetter(symbol) ? 1 : fewest[symbol - FIRST_NONTERMINAL];
                sum = Math.min(NEVER, sum + own);
                tails[p * TAILS + i] = sum;
            }
        }

        private void findReachable(Grammar grammar) {
            reachable = 1 << grammar.start();
            letters = 0;
            for (int round = 0; round < NONTERMINALS; round++) {
                for (int p = 0; p < grammar.count(); p++) {
                    if (bit(reachable, grammar.left(p)) == 1) {
                        reachRight(grammar, p);
                    }
                }
            }
        }

        private void reachRight(Grammar grammar, int p) {
            for (int i = 0; i < grammar.length(p); i++) {
                int symbol = grammar.symbolAt(p, i);
                if (isLetter(symbol)) {
                    letters |= 1 << symbol;
                } else {
                    reachable |= 1 << (symbol - FIRST_NONTERMINAL);
                }
            }
        }

        private void findRelations(Grammar grammar) {
            Arrays.fill(leading, 0);
            Arrays.fill(alone, 0);
            for (int p = 0; p < grammar.count(); p++) {
                relateRight(grammar, p);
            }
        }

        private void relateRight(Grammar grammar, int p) {
            int left = grammar.left(p);
            for (int i = 0; i < grammar.length(p); i++) {
                int symbol = grammar.symbolAt(p, i);
                if (isLetter(symbol)) {
                    return;
                }
                int x = symbol - FIRST_NONTERMINAL;
                leading[left] |= 1 << x;
                if (tail(p, i + 1) == 0) {
                    alone[left] |= 1 << x;
                }
                if (fewest[x] != 0) {
                    return;
                }
            }
        }

        /** Carries a relation on over several steps; returns the nonterminals that are related to themselves. */
        private static int findLoops(int[] relation) {
            for (int via = 0; via < NONTERMINALS; via++) {
                for (int x = 0; x < NONTERMINALS; x++) {
                    if (bit(relation[x], via) == 1) {
                        relation[x] |= relation[via];
                    }
                }
            }
            int loops = 0;
            for (int x = 0; x < NONTERMINALS; x++) {
                loops |= relation[x] & (1 << x);
            }
            return loops;
        }

        /**
         * Orders the reachable nonterminals so that each stands behind those that are derived from it alone:
         * where none is cyclic, each of those has fewer such ones itself.
         */
        private void findOrder() {
            ordered = 0;
            for (int size = 0; size <= NONTERMINALS; size++) {
                for (int x = 0; x < NONTERMINALS; x++) {
                    if (bit(reachable, x) == 1 && Integer.bitCount(alone[x]) == size && ordered < NONTERMINALS) {
                        order[ordered] = x;
                        ordered++;
                    }
                }
            }
        }
    }

    /**
     * A set of words with at most three letters, with what becomes of it when its words are cut to two letters
     * and to one. Words are told by digits, letters plus 1, and bits stand for the numbers of words.
     */
    private static final class WordSet {
        private static final long EMPTY_WORD = 1L;
        private static final long ONE_LETTER = 62L;
        private static final long AT_MOST_ONE = 63L;

        /** Entry 0 tells whether the empty word is there; entry d has what follows the digit d in words. */
        private final long[] rests = new long[WORD_BASE];
        private long pairs = 0;
        private long heads = 0;

        void drop() {
            Arrays.fill(rests, 0L);
            pairs = 0;
            heads = 0;
        }

        void addEmptyWord() {
            rests[0] = EMPTY_WORD;
            pairs |= EMPTY_WORD;
            heads |= EMPTY_WORD;
        }

        void addLetter(int letter) {
            if (letter >= 0 && letter < LETTERS) {
                rests[letter + 1] |= EMPTY_WORD;
                pairs |= 1L << (letter + 1);
                heads |= 1L << (letter + 1);
            }
        }

        /** Adds the words of another set; returns whether one of them is new. */
        boolean addAll(WordSet other) {
            boolean grown = false;
            for (int d = 0; d < WORD_BASE; d++) {
                if ((other.rests[d] & ~rests[d]) != 0) {
                    rests[d] |= other.rests[d];
                    grown = true;
                }
            }
            pairs |= other.pairs;
            heads |= other.heads;
            return grown;
        }

        /** Becomes the set of the words of one set followed by those of another, cut to three letters. */
        void join(WordSet front, WordSet back) {
            if (front.heads == 0 || back.heads == 0) {
                drop();
                return;
            }
            boolean frontMayVanish = front.rests[0] != 0;
            rests[0] = front.rests[0] & back.rests[0];
            for (int d = 1; d < WORD_BASE; d++) {
                rests[d] = joinPairs(front.rests[d], back) | (frontMayVanish ? back.rests[d] : 0L);
            }
            pairs = joinPairs(front.pairs, back);
            heads = (front.heads & ~EMPTY_WORD) | (frontMayVanish ? back.heads : 0L);
        }

        /** The words of a set with at most two letters followed by those of another one, cut to two letters. */
        private static long joinPairs(long front, WordSet back) {
            long joined = front & ~AT_MOST_ONE;
            if ((front & EMPTY_WORD) != 0) {
                joined |= back.pairs;
            }
            if ((front & ONE_LETTER) == 0) {
                return joined;
            }
            for (int d = 1; d < WORD_BASE; d++) {
                if (((front >> d) & 1L) != 0) {
                    joined |= (back.heads & EMPTY_WORD) << d;
                    joined |= (back.heads & ONE_LETTER) << (WORD_BASE * d);
                }
            }
            return joined;
        }

        /** Whether a word is there when all are cut to k letters; it must be one with at most k letters. */
        boolean has(int word, int k) {
            if (word < 0 || k < 0 || k > MOST_AHEAD || word >= WORD_LIMITS[k]) {
                return false;
            }
            if (k == 0) {
                return heads != 0;
            }
            if (k < MOST_AHEAD) {
                return (((k == 1 ? heads : pairs) >> word) & 1L) != 0;
            }
            int unit = word < WORD_LIMITS[1] ? 1 : word < WORD_LIMITS[2] ? WORD_LIMITS[1] : WORD_LIMITS[2];
            return ((rests[word / unit] >> (word % unit)) & 1L) != 0;
        }

        /** How many words there are when all are cut to k letters. */
        int size(int k) {
            if (k == 0) {
                return heads != 0 ? 1 : 0;
            }
            if (k < MOST_AHEAD) {
                return Long.bitCount(k == 1 ? heads : pairs);
            }
            int sum = 0;
            for (int d = 0; d < WORD_BASE; d++) {
                sum += Long.bitCount(rests[d]);
            }
            return sum;
        }

        /** Whether two sets have a word in common when all are cut to k letters. */
        boolean meets(WordSet other, int k) {
            if (k == 0) {
                return heads != 0 && other.heads != 0;
            }
            if (k < MOST_AHEAD) {
                return (k == 1 ? heads & other.heads : pairs & other.pairs) != 0;
            }
            for (int d = 0; d < WORD_BASE; d++) {
                if ((rests[d] & other.rests[d]) != 0) {
                    return true;
                }
            }
            return false;
        }

        /** The letters at a place of the words, and bit 5 if some end before it. */
        int marksAt(int place) {
            if (place == 0) {
                return markMask(heads, (heads & EMPTY_WORD) != 0);
            }
            if (place == 1) {
                return markMask(lastDigits(pairs), (pairs & AT_MOST_ONE) != 0);
            }
            long all = 0;
            for (int d = 1; d < WORD_BASE; d++) {
                all |= rests[d];
            }
            return markMask(lastDigits(all), rests[0] != 0 || (all & AT_MOST_ONE) != 0);
        }

        /** The last digits of the words with two letters, a bit for each. */
        private static long lastDigits(long twos) {
            long digits = 0;
            for (int d = 1; d < WORD_BASE; d++) {
                digits |= (twos >> (WORD_BASE * d)) & ONE_LETTER;
            }
            return digits;
        }

        private static int markMask(long digits, boolean end) {
            return (int) ((digits & ONE_LETTER) >> 1) | (end ? 1 << LETTERS : 0);
        }
    }

    /**
     * First words, following words and words ahead, by three letters, from which those by fewer are cut; and the
     * depths that the words ahead lead to.
     */
    private static final class Foresight {
        /** Each round but the last adds a word to one of six sets, none of which has more than 156. */
        private static final int MOST_ROUNDS = 1000;

        private final WordSet emptyWord = new WordSet();
        private final WordSet[] letters = newSets(LETTERS);
        private final WordSet[] firsts = newSets(NONTERMINALS);
        private final WordSet[] follows = newSets(NONTERMINALS);
        private final WordSet[] aheads = newSets(MOST_PRODUCTIONS);
        private final WordSet[] scratch = newSets(2);
        private final int[] depths = new int[NONTERMINALS];
        private final int[] roughDepths = new int[NONTERMINALS];

        Foresight() {
            emptyWord.addEmptyWord();
            for (int c = 0; c < LETTERS; c++) {
                letters[c].addLetter(c);
            }
        }

        private static WordSet[] newSets(int count) {
            WordSet[] sets = new WordSet[Math.max(0, count)];
            for (int i = 0; i < sets.length; i++) {
                sets[i] = new WordSet();
            }
            return sets;
        }

        WordSet firstOf(int x) {
            return firsts[x];
        }

        WordSet followOf(int x) {
            return follows[x];
        }

        WordSet aheadOf(int p) {
            return aheads[p];
        }

        int depthOf(int x) {
            return depths[x];
        }

        int roughDepthOf(int x) {
            return roughDepths[x];
        }

        void find(Grammar grammar) {
            findFirsts(grammar);
            findFollows(grammar);
            for (int p = 0; p < grammar.count(); p++) {
                aheads[p].drop();
                aheads[p].addAll(putBefore(grammar, p, follows[grammar.left(p)]));
            }
            for (int x = 0; x < NONTERMINALS; x++) {
                depths[x] = findDepth(grammar, x);
                roughDepths[x] = findRoughDepth(grammar, x);
            }
        }

        private void findFirsts(Grammar grammar) {
            for (int x = 0; x < NONTERMINALS; x++) {
                firsts[x].drop();
            }
            boolean grown = true;
            for (int round = 0; round < MOST_ROUNDS && grown; round++) {
                grown = false;
                for (int p = 0; p < grammar.count(); p++) {
                    if (firsts[grammar.left(p)].addAll(putBefore(grammar, p, emptyWord))) {
                        grown = true;
                    }
                }
            }
        }

        private void findFollows(Grammar grammar) {
            for (int x = 0; x < NONTERMINALS; x++) {
                follows[x].drop();
            }
            follows[grammar.start()].addEmptyWord();
            boolean grown = true;
            for (int round = 0; round < MOST_ROUNDS && grown; round++) {
                grown = false;
                for (int p = 0; p < grammar.count(); p++) {
                    if (growFollows(grammar, p)) {
                        grown = true;
                    }
                }
            }
        }

        private boolean growFollows(Grammar grammar, int p) {
            boolean grown = false;
            WordSet behind = follows[grammar.left(p)];
            for (int i = grammar.length(p) - 1; i >= 0; i--) {
                int symbol = grammar.symbolAt(p, i);
                if (!isLetter(symbol) && follows[symbol - FIRST_NONTERMINAL].addAll(behind)) {
                    grown = true;
                }
                WordSet joined = scratch[i & 1];
                joined.join(wordsOf(symbol), behind);
                behind = joined;
            }
            return grown;
        }

        /** The words of a right side, each followed by one of a set; the answer lasts until the next call. */
        private WordSet putBefore(Grammar grammar, int p, WordSet back) {
            WordSet behind = back;
            for (int i = grammar.length(p) - 1; i >= 0; i--) {
                WordSet joined = scratch[i & 1];
                joined.join(wordsOf(grammar.symbolAt(p, i)), behind);
                behind = joined;
            }
            return behind;
        }

        private WordSet wordsOf(int symbol) {
            return isLetter(symbol) ? letters[symbol] : firsts[symbol - FIRST_NONTERMINAL];
        }

        private int findDepth(Grammar grammar, int x) {
            for (int k = 0; k <= MOST_AHEAD; k++) {
                if (firstClash(grammar, x, k) == NONE) {
                    return k;
                }
            }
            return NONE;
        }

        int firstClash(Grammar grammar, int x, int k) {
            for (int p = grammar.begin(x); p < grammar.end(x); p++) {
                for (int q = p + 1; q < grammar.end(x); q++) {
                    if (aheads[p].meets(aheads[q], k)) {
                        return 100 * p + q;
                    }
                }
            }
            return NONE;
        }

        private int findRoughDepth(Grammar grammar, int x) {
            int most = 0;
            for (int p = grammar.begin(x); p < grammar.end(x); p++) {
                for (int q = p + 1; q < grammar.end(x); q++) {
                    int place = partingPlace(aheads[p], aheads[q]);
                    if (place == NONE) {
                        return NONE;
                    }
                    most = Math.max(most, place + 1);
                }
            }
            return most;
        }

        private static int partingPlace(WordSet one, WordSet other) {
            for (int place = 0; place < MOST_AHEAD; place++) {
                if ((one.marksAt(place) & other.marksAt(place)) == 0) {
                    return place;
                }
            }
            return NONE;
        }
    }

    /** Parses by looking ahead, and keeps what it chose. */
    private static final class Predictor {
        /** Each turn goes over a letter or chooses a production, but for the one that fails. */
        private static final int MOST_TURNS = MOST_CHOSEN + MOST_INPUT + 1;

        private final int[] stack = new int[MOST_CHOSEN * MOST_SYMBOLS + 1];
        private final int[] choices = new int[MOST_CHOSEN];
        private int height = 0;
        private int count = 0;

        int count() {
            return count;
        }

        int choice(int i) {
            return choices[i];
        }

        void forget() {
            count = 0;
        }

        int run(Grammar grammar, Foresight foresight, Text text) {
            int gone = 0;
            count = 0;
            stack[0] = FIRST_NONTERMINAL + grammar.start();
            height = 1;
            for (int turn = 0; turn < MOST_TURNS && height > 0; turn++) {
                height--;
                int top = stack[height];
                if (isLetter(top)) {
                    if (text.letterAt(gone) != top) {
                        return FAILED - gone;
                    }
                    gone++;
                } else {
                    int x = top - FIRST_NONTERMINAL;
                    int k = foresight.depthOf(x);
                    int p = choose(grammar, foresight, x, k, beginning(text, gone, k));
                    if (p == NONE || count >= MOST_CHOSEN) {
                        return FAILED - gone;
                    }
                    take(grammar, p);
                }
            }
            return gone == text.size() ? count : FAILED - gone;
        }

        /** The number of the beginning by k of the rest of an input. */
        private static int beginning(Text text, int from, int k) {
            int word = 0;
            for (int i = from; i < from + k && i < text.size(); i++) {
                word = WORD_BASE * word + text.letterAt(i) + 1;
            }
            return word;
        }

        private static int choose(Grammar grammar, Foresight foresight, int x, int k, int word) {
            for (int p = grammar.begin(x); p < grammar.end(x); p++) {
                if (foresight.aheadOf(p).has(word, k)) {
                    return p;
                }
            }
            return NONE;
        }

        private void take(Grammar grammar, int p) {
            choices[count] = p;
            count++;
            for (int i = grammar.length(p) - 1; i >= 0 && height < stack.length; i--) {
                stack[height] = grammar.symbolAt(p, i);
                height++;
            }
        }
    }

    /**
     * A table of how many derivations the parts of a word have from each nonterminal. Its user says at which entry
     * of the table a part is found, so that equal parts of several words can share one.
     */
    private static final class Counts {
        static final int ENDS = MOST_INPUT + 1;

        private final int[] letters = new int[MOST_INPUT];
        private final int[] entries = new int[ENDS * ENDS];
        private final int[] table;
        /** By place m: in how many ways the symbols so far give the letters up to m. */
        private final int[] ways = new int[ENDS];

        Counts(int entryCount) {
            table = new int[Math.max(0, entryCount) * NONTERMINALS];
        }

        void setLetter(int i, int letter) {
            letters[i] = letter;
        }

        int letter(int i) {
            return letters[i];
        }

        void setEntry(int from, int to, int entry) {
            entries[from * ENDS + to] = entry * NONTERMINALS;
        }

        int count(int x, int from, int to) {
            return table[entries[from * ENDS + to] + x];
        }

        /** Counts for a part of the word whose own parts have been counted; no reachable nonterminal may be cyclic. */
        void fill(Grammar grammar, Traits traits, int from, int to) {
            int entry = entries[from * ENDS + to];
            for (int x = 0; x < NONTERMINALS; x++) {
                table[entry + x] = 0;
            }
            for (int i = 0; i < traits.ordered(); i++) {
                int x = traits.inOrder(i);
                long sum = 0;
                for (int p = grammar.begin(x); p < grammar.end(x); p++) {
                    if (traits.tail(p, 0) <= to - from) {
                        sum += waysOf(grammar, traits, p, from, to);
                    }
                }
                table[entry + x] = (int) Math.min(MOST_DERIVATIONS, sum);
            }
        }

        /**
         * In how many ways a right side gives the letters between two places. The letters that the symbols need at
         * least keep each symbol between bounds; so no entry is used that is not known yet.
         */
        private int waysOf(Grammar grammar, Traits traits, int p, int from, int to) {
            int slack = to - from - traits.tail(p, 0);
            int low = from;
            for (int m = from; m <= from + slack; m++) {
                ways[m] = m == from ? 1 : 0;
            }
            int length = grammar.length(p);
            for (int i = 0; i < length; i++) {
                int symbol = grammar.symbolAt(p, i);
                int next = low + traits.tail(p, i) - traits.tail(p, i + 1);
                if (isLetter(symbol)) {
                    passLetter(symbol, low, slack);
                } else {
                    int least = i == length - 1 ? to : next;
                    passNonterminal(symbol - FIRST_NONTERMINAL, low, low + slack, least, next + slack);
                }
                low = next;
            }
            return ways[to];
        }

        private void passLetter(int letter, int low, int slack) {
            for (int m = low + slack; m >= low; m--) {
                ways[m + 1] = letters[m] == letter ? ways[m] : 0;
            }
        }

        /** Goes downwards, as a place is needed in its old state by itself and by later ones only. */
        private void passNonterminal(int x, int low, int high, int least, int most) {
            for (int to = most; to >= least; to--) {
                long sum = 0;
                for (int m = low; m <= high && m <= to; m++) {
                    if (ways[m] != 0) {
                        sum = Math.min(MOST_DERIVATIONS, sum + (long) ways[m] * count(x, m, to));
                    }
                }
                ways[to] = (int) sum;
            }
        }
    }

    /** The derivations of an input: their number, and the first two of them. */
    private static final class Derivations {
        private static final int ENDS = Counts.ENDS;
        /** Each step takes a symbol from the stack and puts at most five there. */
        private static final int MOST_HEIGHT = MOST_STEPS * (MOST_SYMBOLS - 1) + 1;

        private final Counts counts = new Counts(ENDS * ENDS);
        private final int[] stack = new int[MOST_HEIGHT + 1];
        /** By height and place m: in how many ways the stack up to this height gives the input from m on. */
        private final int[] ways = new int[(MOST_HEIGHT + 1) * ENDS];
        private final int[] steps = new int[2 * MOST_STEPS];
        private final int[] stepCounts = new int[2];
        private boolean counted = false;
        private boolean listed = false;
        private int size = 0;
        private int total = 0;
        private int height = 0;
        /** How many of the derivations that begin with the steps so far come before the one that is listed. */
        private int skip = 0;

        Derivations() {
            for (int from = 0; from < ENDS; from++) {
                for (int to = from; to < ENDS; to++) {
                    counts.setEntry(from, to, from * ENDS + to);
                }
            }
        }

        /** To be called when the input or the grammar changes. */
        void forget() {
            counted = false;
            listed = false;
        }

        int total(Grammar grammar, Traits traits, Text text) {
            if (!counted && text.size() <= MOST_INPUT) {
                size = text.size();
                for (int i = 0; i < size; i++) {
                    counts.setLetter(i, text.letterAt(i));
                }
                for (int length = 0; length <= size; length++) {
                    for (int from = 0; from + length <= size; from++) {
                        counts.fill(grammar, traits, from, from + length);
                    }
                }
                total = counts.count(grammar.start(), 0, size);
                counted = true;
            }
            return total;
        }

        /** A step of derivation j, 0 or 1; total() must have counted before. */
        int stepAt(Grammar grammar, int j, int i) {
            if (!listed) {
                stepCounts[0] = total > 0 ? list(grammar, 0) : 0;
                stepCounts[1] = total > 1 ? list(grammar, 1) : 0;
                listed = true;
            }
            return i < stepCounts[j] ? steps[j * MOST_STEPS + i] : NONE;
        }

        /** Lists the steps of derivation j, which there must be; returns how many are told. */
        private int list(Grammar grammar, int j) {
            int count = 0;
            int gone = 0;
            skip = j;
            startStack(FIRST_NONTERMINAL + grammar.start());
            for (int turn = 0; turn < MOST_STEPS + MOST_INPUT && height > 0 && count < MOST_STEPS; turn++) {
                int top = stack[height];
                height--;
                if (isLetter(top)) {
                    gone++;
                } else {
                    steps[j * MOST_STEPS + count] = replace(grammar, top - FIRST_NONTERMINAL, gone);
                    count++;
                }
            }
            return count;
        }

        private void startStack(int symbol) {
            for (int m = 0; m <= size; m++) {
                ways[m] = m == size ? 1 : 0;
            }
            height = 0;
            push(symbol, 0);
        }

        /** Puts the right side on the stack by which the listed derivation goes on; returns its production. */
        private int replace(Grammar grammar, int x, int gone) {
            int base = height;
            for (int p = grammar.begin(x); p < grammar.end(x); p++) {
                for (int i = grammar.length(p) - 1; i >= 0; i--) {
                    push(grammar.symbolAt(p, i), gone);
                }
                int here = ways[height * ENDS + gone];
                if (skip < here) {
                    return p;
                }
                skip -= here;
                height = base;
            }
            return NONE;
        }

        private void push(int symbol, int gone) {
            if (height >= MOST_HEIGHT) {
                return;
            }
            int below = height * ENDS;
            height++;
            stack[height] = symbol;
            for (int m = gone; m <= size; m++) {
                ways[height * ENDS + m] = isLetter(symbol)
                    ? waysOfLetter(symbol, m, below)
                    : waysOfNonterminal(symbol - FIRST_NONTERMINAL, m, below);
            }
        }

        private int waysOfLetter(int letter, int m, int below) {
            return m < size && counts.letter(m) == letter ? ways[below + m + 1] : 0;
        }

        private int waysOfNonterminal(int x, int m, int below) {
            long sum = 0;
            for (int to = m; to <= size; to++) {
                if (ways[below + to] != 0) {
                    sum = Math.min(MOST_DERIVATIONS, sum + (long) counts.count(x, m, to) * ways[below + to]);
                }
            }
            return (int) sum;
        }
    }

    /** Looks through the short words, in their order, for one with several derivations. */
    private static final class Ambiguity {
        private static final int MOST_LETTERS = 4;
        /** There are 1 + 5 + 25 + 125 + 625 words; each is told by its place among them. */
        private static final int WORDS = 781;

        private final Counts counts = new Counts(WORDS);
        private boolean known = false;
        private int answer = NONE;

        /** To be called when the grammar changes. */
        void forget() {
            known = false;
        }

        int shortest(Grammar grammar, Traits traits) {
            if (!known) {
                answer = search(grammar, traits);
                known = true;
            }
            return answer;
        }

        /** A word with a letter that the grammar lacks is passed over, and so is no part of a later one. */
        private int search(Grammar grammar, Traits traits) {
            for (int place = 0; place < WORDS; place++) {
                int length = spell(place);
                if (isOver(traits.letters(), length)) {
                    enterParts(length);
                    counts.fill(grammar, traits, 0, length);
                    if (counts.count(grammar.start(), 0, length) > 1) {
                        return number(length);
                    }
                }
            }
            return NONE;
        }

        /** Finds the letters of the word at a place: behind word n come, with a letter more, 5n + 1 to 5n + 5. */
        private int spell(int place) {
            int length = 0;
            for (int rest = place; rest > 0 && length < MOST_LETTERS; rest = (rest - 1) / LETTERS) {
                length++;
            }
            int rest = place;
            for (int i = length - 1; i >= 0; i--) {
                counts.setLetter(i, (rest - 1) % LETTERS);
                rest = (rest - 1) / LETTERS;
            }
            return length;
        }

        private boolean isOver(int letters, int length) {
            for (int i = 0; i < length; i++) {
                if (bit(letters, counts.letter(i)) == 0) {
                    return false;
                }
            }
            return true;
        }

        private void enterParts(int length) {
            for (int from = 0; from <= length; from++) {
                int place = 0;
                counts.setEntry(from, from, place);
                for (int to = from + 1; to <= length; to++) {
                    place = LETTERS * place + counts.letter(to - 1) + 1;
                    counts.setEntry(from, to, place);
                }
            }
        }

        private int number(int length) {
            int number = 0;
            for (int i = 0; i < length; i++) {
                number = WORD_BASE * number + counts.letter(i) + 1;
            }
            return number;
        }
    }
}
