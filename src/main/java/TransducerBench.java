import java.util.Arrays;
import java.util.NoSuchElementException;

/**
 * A workbench for symbolic finite transducers.
 *
 * <p>All rows that calls work on are made with the object and used again by every call, so that
 * hardly anything is made later; and each call checks its arguments before it changes anything.
 */
public final class TransducerBench {
    private static final int SLOTS = 4;
    private static final int STATES = 12;
    private static final int STATE_SETS = 1 << STATES;
    private static final int RULES = 40;
    private static final int TERMS = 6;
    private static final int SYMBOLS = 100;
    private static final int LONGEST_TEXT = 120;
    private static final int LONGEST_WORD = 10;
    private static final int LONGEST_OUTPUT = LONGEST_WORD * TERMS;
    private static final int LONGEST_COUNTED = 8;
    private static final int CHANGES_KEPT = 8;
    private static final int SYNTAX_ERROR = -100;
    /** An offset is kept as this number plus the offset, which no constant can be. */
    private static final int OFFSET_ZERO = 1000;

    private final Transducer[] slots;
    /** What an operation builds before it is known to succeed. */
    private final Transducer draft;
    private final History history;
    private final Reader reader;
    private final Word word;
    private final Word latest;
    private final Outputs outputs;
    private final Domains domains;
    private final Pairing pairing;
    private final Composer composer;

    public TransducerBench() {
        slots = new Transducer[SLOTS];
        for (int i = 0; i < SLOTS; i++) {
            slots[i] = new Transducer();
        }
        draft = new Transducer();
        history = new History();
        reader = new Reader();
        word = new Word();
        latest = new Word();
        outputs = new Outputs();
        domains = new Domains();
        pairing = new Pairing();
        composer = new Composer();
    }

    // ---- rules

    public boolean setFinal(int slot, int state, boolean isFinal) throws IllegalArgumentException {
        requireSlot(slot);
        requireState(state);
        Transducer changed = slots[slot];
        boolean wasFinal = changed.hasFinal(state);
        history.save(slot, changed);
        changed.markFinal(state, isFinal);
        return wasFinal;
    }

    public int addRule(int slot, int from, int to, int low, int high)
            throws IllegalArgumentException, IllegalStateException {
        requireSlot(slot);
        requireState(from);
        requireState(to);
        requireSymbols(low, high);
        Transducer changed = slots[slot];
        if (changed.isFull()) {
            throw new IllegalStateException("there are 40 rules");
        }
        history.save(slot, changed);
        changed.append(from, to).guard.include(low, high);
        return changed.size - 1;
    }

    public int addRange(int slot, int rule, int low, int high)
            throws IllegalArgumentException, IndexOutOfBoundsException {
        requireSlot(slot);
        requireSymbols(low, high);
        requireRule(slot, rule);
        Transducer changed = slots[slot];
        history.save(slot, changed);
        SymbolSet guard = changed.list[rule].guard;
        guard.include(low, high);
        return guard.size();
    }

    public int addTerm(int slot, int rule, boolean isOffset, int value)
            throws IllegalArgumentException, IndexOutOfBoundsException, IllegalStateException {
        requireSlot(slot);
        int least = isOffset ? 1 - SYMBOLS : 0;
        if (value < least || value >= SYMBOLS) {
            throw new IllegalArgumentException("the value is out of range");
        }
        requireRule(slot, rule);
        Transducer changed = slots[slot];
        Rule longer = changed.list[rule];
        if (longer.termCount >= TERMS) {
            throw new IllegalStateException("the rule has 6 terms");
        }
        history.save(slot, changed);
        longer.append(isOffset ? OFFSET_ZERO + value : value);
        return longer.termCount;
    }

    public int removeRule(int slot, int rule)
            throws IllegalArgumentException, IndexOutOfBoundsException {
        requireSlot(slot);
        requireRule(slot, rule);
        Transducer changed = slots[slot];
        history.save(slot, changed);
        changed.remove(rule);
        return changed.size;
    }

    public int rules(int slot) throws IllegalArgumentException {
        requireSlot(slot);
        return slots[slot].size;
    }

    public int finals(int slot) throws IllegalArgumentException {
        requireSlot(slot);
        return slots[slot].finalStates;
    }

    public int rule(int slot, int rule, int what)
            throws IllegalArgumentException, IndexOutOfBoundsException {
        requireSlot(slot);
        if (what < 0 || what > 5) {
            throw new IllegalArgumentException("there is no such number about a rule");
        }
        requireRule(slot, rule);
        Rule asked = slots[slot].list[rule];
        switch (what) {
            case 0:
                return asked.from;
            case 1:
                return asked.to;
            case 2:
                return asked.guard.size();
            case 3:
                return asked.guard.sizeWithin(asked.lowest, asked.highest);
            case 4:
                return asked.termCount;
            default:
                return asked.guard.rangeCount();
        }
    }

    public int range(int slot, int rule, int i, boolean isHigh)
            throws IllegalArgumentException, IndexOutOfBoundsException {
        requireSlot(slot);
        requireRule(slot, rule);
        SymbolSet guard = slots[slot].list[rule].guard;
        if (i < 0 || i >= guard.rangeCount()) {
            throw new IndexOutOfBoundsException("there is no such range");
        }
        int low = guard.rangeStart(i);
        return isHigh ? guard.rangeEnd(low) : low;
    }

    public int term(int slot, int rule, int i)
            throws IllegalArgumentException, IndexOutOfBoundsException {
        requireSlot(slot);
        requireRule(slot, rule);
        Rule asked = slots[slot].list[rule];
        requireTerm(asked, i);
        return asked.terms[i];
    }

    public int valueOf(int slot, int rule, int i, int symbol)
            throws IllegalArgumentException, IndexOutOfBoundsException {
        requireSlot(slot);
        requireSymbols(symbol, symbol);
        requireRule(slot, rule);
        Rule asked = slots[slot].list[rule];
        requireTerm(asked, i);
        return asked.valueAt(i, symbol);
    }

    // ---- texts

    public int feed(char letter) throws IllegalStateException {
        if (reader.length >= LONGEST_TEXT) {
            throw new IllegalStateException("the buffer holds 120 characters");
        }
        reader.append(letter);
        return reader.length;
    }

    public int parse(int slot) throws IllegalArgumentException, IllegalStateException {
        requireSlot(slot);
        boolean isText = reader.readInto(draft);
        reader.clear();
        if (!isText) {
            return SYNTAX_ERROR - reader.at;
        }
        if (reader.hasWrongNumber) {
            throw new IllegalArgumentException("a state, a range or a rule of the text is wrong");
        }
        if (reader.hasTooManyRules) {
            throw new IllegalStateException("there would be more than 40 rules");
        }
        return replace(slot, draft);
    }

    // ---- the word

    public int push(int symbol) throws IllegalArgumentException, IllegalStateException {
        requireSymbols(symbol, symbol);
        if (word.length >= LONGEST_WORD) {
            throw new IllegalStateException("the word has 10 symbols");
        }
        word.append(symbol);
        return word.length;
    }

    public int clearWord() {
        int length = word.length;
        word.clear();
        return length;
    }

    public int symbol(int i) throws IndexOutOfBoundsException {
        requireIndex(word, i);
        return word.symbols[i];
    }

    public long runs(int slot) throws IllegalArgumentException {
        requireSlot(slot);
        return outputs.countRuns(slots[slot], word);
    }

    public int transduce(int slot, boolean isLast)
            throws IllegalArgumentException, NoSuchElementException {
        requireSlot(slot);
        if (!outputs.find(slots[slot], word, isLast, latest)) {
            throw new NoSuchElementException("the word has no output");
        }
        return latest.length;
    }

    public int result(int i) throws IndexOutOfBoundsException {
        requireIndex(latest, i);
        return latest.symbols[i];
    }

    public int useResult() throws IllegalStateException {
        if (latest.length > LONGEST_WORD) {
            throw new IllegalStateException("the result has more than 10 symbols");
        }
        word.copyFrom(latest);
        return word.length;
    }

    // ---- domains

    public long domainCount(int slot, int length) throws IllegalArgumentException {
        requireSlot(slot);
        requireCounted(length);
        return domains.countWords(slots[slot], length);
    }

    public double domainShare(int slot, int length) throws IllegalArgumentException {
        requireSlot(slot);
        requireCounted(length);
        long all = 1;
        for (int i = 0; i < length; i++) {
            all *= SYMBOLS;
        }
        return (double) domains.countWords(slots[slot], length) / (double) all;
    }

    public int shortestInput(int slot) throws IllegalArgumentException, NoSuchElementException {
        requireSlot(slot);
        if (!domains.findShortest(slots[slot], latest)) {
            throw new NoSuchElementException("the domain is empty");
        }
        return latest.length;
    }

    public int outputSymbols(int slot) throws IllegalArgumentException {
        requireSlot(slot);
        return outputs.countSymbols(slots[slot]);
    }

    // ---- tests

    public boolean isDeterministic(int slot) throws IllegalArgumentException {
        requireSlot(slot);
        Transducer asked = slots[slot];
        for (int i = 0; i < asked.size; i++) {
            for (int j = 0; j < i; j++) {
                Rule one = asked.list[i];
                Rule other = asked.list[j];
                if (one.from == other.from && one.isEnabledWith(other)) {
                    return false;
                }
            }
        }
        return true;
    }

    public boolean isFunctional(int slot) throws IllegalArgumentException {
        requireSlot(slot);
        return pairing.isAgreed(slots[slot], slots[slot]);
    }

    public boolean isEquivalent(int one, int other)
            throws IllegalArgumentException, IllegalStateException {
        requireSlot(one);
        requireSlot(other);
        Transducer first = slots[one];
        Transducer second = slots[other];
        if (!pairing.isAgreed(first, first) || !pairing.isAgreed(second, second)) {
            throw new IllegalStateException("one of the transducers is not functional");
        }
        return domains.isContained(first, second)
                && domains.isContained(second, first)
                && pairing.isAgreed(first, second);
    }

    public boolean isWithin(int one, int other) throws IllegalArgumentException {
        requireSlot(one);
        requireSlot(other);
        return domains.isContained(slots[one], slots[other]);
    }

    // ---- operations

    public int compose(int a, int b, int target)
            throws IllegalArgumentException, UnsupportedOperationException {
        requireSlot(a);
        requireSlot(b);
        requireSlot(target);
        if (!composer.build(slots[a], slots[b], draft)) {
            throw new UnsupportedOperationException("the composition has no room in a slot");
        }
        return replace(target, draft);
    }

    public int invert(int slot, int target) throws IllegalArgumentException, IllegalStateException {
        requireSlot(slot);
        requireSlot(target);
        Transducer source = slots[slot];
        for (int i = 0; i < source.size; i++) {
            Rule rule = source.list[i];
            if (rule.termCount != 1 || !isOffsetTerm(rule.terms[0])) {
                throw new IllegalStateException("a rule has other terms than one offset");
            }
        }
        draft.becomeInverse(source);
        return replace(target, draft);
    }

    public int restrict(int slot, int low, int high) throws IllegalArgumentException {
        requireSlot(slot);
        requireSymbols(low, high);
        Transducer changed = slots[slot];
        int before = changed.size;
        history.save(slot, changed);
        changed.keepSymbols(low, high);
        return before - changed.size;
    }

    public int trim(int slot) throws IllegalArgumentException {
        requireSlot(slot);
        Transducer changed = slots[slot];
        int before = changed.size;
        history.save(slot, changed);
        changed.dropUseless();
        return before - changed.size;
    }

    public int copy(int slot, int target) throws IllegalArgumentException {
        requireSlot(slot);
        requireSlot(target);
        return replace(target, slots[slot]);
    }

    public int undo() throws IllegalStateException {
        if (history.size == 0) {
            throw new IllegalStateException("there is no change to take back");
        }
        return history.takeBack(slots);
    }

    // ---- what the face shares

    private static void requireSlot(int slot) {
        if (slot < 0 || slot >= SLOTS) {
            throw new IllegalArgumentException("there is no such slot");
        }
    }

    private static void requireState(int state) {
        if (state < 0 || state >= STATES) {
            throw new IllegalArgumentException("there is no such state");
        }
    }

    private static void requireSymbols(int low, int high) {
        if (low < 0 || high >= SYMBOLS || high < low) {
            throw new IllegalArgumentException("there is no such symbol or range of symbols");
        }
    }

    private static void requireCounted(int length) {
        if (length < 0 || length > LONGEST_COUNTED) {
            throw new IllegalArgumentException("the length is out of range");
        }
    }

    private void requireRule(int slot, int rule) {
        if (rule < 0 || rule >= slots[slot].size) {
            throw new IndexOutOfBoundsException("there is no such rule");
        }
    }

    private static void requireTerm(Rule rule, int i) {
        if (i < 0 || i >= rule.termCount) {
            throw new IndexOutOfBoundsException("there is no such term");
        }
    }

    private static void requireIndex(Word asked, int i) {
        if (i < 0 || i >= asked.length) {
            throw new IndexOutOfBoundsException("there is no such index");
        }
    }

    private int replace(int slot, Transducer content) {
        history.save(slot, slots[slot]);
        slots[slot].copyFrom(content);
        return slots[slot].size;
    }

    private static boolean isOffsetTerm(int term) {
        return term >= SYMBOLS;
    }

    private static boolean hasState(int states, int state) {
        return ((states >> state) & 1) != 0;
    }

    /** A set of symbols, a bit for each: the first 64 in low, the others in high. */
    private static final class SymbolSet {
        private static final int HALF = 64;
        private static final long HIGH_SYMBOLS = (1L << (SYMBOLS - HALF)) - 1;

        private long low;
        private long high;

        void clear() {
            low = 0;
            high = 0;
        }

        void fill() {
            low = -1L;
            high = HIGH_SYMBOLS;
        }

        void copyFrom(SymbolSet other) {
            low = other.low;
            high = other.high;
        }

        void include(int first, int last) {
            low |= bits(first, last);
            high |= bits(first - HALF, last - HALF);
        }

        void include(SymbolSet other) {
            low |= other.low;
            high |= other.high;
        }

        void keep(int first, int last) {
            low &= bits(first, last);
            high &= bits(first - HALF, last - HALF);
        }

        void keep(SymbolSet other) {
            low &= other.low;
            high &= other.high;
        }

        /** Adds the distance to every symbol; what is no symbol then is dropped. */
        void shift(int distance) {
            if (distance > 0) {
                shiftUp(distance);
            } else if (distance < 0) {
                shiftDown(-distance);
            }
            high &= HIGH_SYMBOLS;
        }

        private void shiftUp(int distance) {
            if (distance >= HALF) {
                high = low << (distance - HALF);
                low = 0;
            } else {
                high = (high << distance) | (low >>> (HALF - distance));
                low = low << distance;
            }
        }

        private void shiftDown(int distance) {
            if (distance >= HALF) {
                low = high >>> (distance - HALF);
                high = 0;
            } else {
                low = (low >>> distance) | (high << (HALF - distance));
                high = high >>> distance;
            }
        }

        boolean has(int symbol) {
            if (symbol < 0 || symbol >= SYMBOLS) {
                return false;
            }
            long half = symbol < HALF ? low : high;
            return ((half >>> (symbol & (HALF - 1))) & 1) != 0;
        }

        boolean isEmpty() {
            return low == 0 && high == 0;
        }

        boolean meets(SymbolSet other) {
            return (low & other.low) != 0 || (high & other.high) != 0;
        }

        boolean meetsWithin(SymbolSet other, int first, int last) {
            return (low & other.low & bits(first, last)) != 0
                    || (high & other.high & bits(first - HALF, last - HALF)) != 0;
        }

        int size() {
            return Long.bitCount(low) + Long.bitCount(high);
        }

        int sizeWithin(int first, int last) {
            return Long.bitCount(low & bits(first, last))
                    + Long.bitCount(high & bits(first - HALF, last - HALF));
        }

        int rangeCount() {
            int count = 0;
            for (int symbol = 0; symbol < SYMBOLS; symbol++) {
                if (isRangeStart(symbol)) {
                    count++;
                }
            }
            return count;
        }

        int rangeStart(int i) {
            int count = 0;
            for (int symbol = 0; symbol < SYMBOLS; symbol++) {
                if (isRangeStart(symbol)) {
                    if (count == i) {
                        return symbol;
                    }
                    count++;
                }
            }
            return SYMBOLS;
        }

        int rangeEnd(int start) {
            int end = start;
            while (end < SYMBOLS && has(end + 1)) {
                end++;
            }
            return end;
        }

        private boolean isRangeStart(int symbol) {
            return has(symbol) && !has(symbol - 1);
        }

        /** The bits from first to last, as far as a long has them. */
        private static long bits(int first, int last) {
            int from = first > 0 ? first : 0;
            int to = last < HALF ? last : HALF - 1;
            return from > to ? 0 : (-1L << from) & (-1L >>> (HALF - 1 - to));
        }
    }

    private static final class Rule {
        private int from;
        private int to;
        private final SymbolSet guard = new SymbolSet();
        private final int[] terms = new int[TERMS];
        private int termCount;
        /** From lowest to highest are the symbols for which the values of all terms are symbols. */
        private int lowest;
        private int highest;

        void begin(int newFrom, int newTo) {
            from = newFrom;
            to = newTo;
            guard.clear();
            termCount = 0;
            lowest = 0;
            highest = SYMBOLS - 1;
        }

        void copyFrom(Rule other) {
            from = other.from;
            to = other.to;
            guard.copyFrom(other.guard);
            System.arraycopy(other.terms, 0, terms, 0, TERMS);
            termCount = other.termCount;
            lowest = other.lowest;
            highest = other.highest;
        }

        void append(int term) {
            if (termCount >= TERMS) {
                return;
            }
            terms[termCount] = term;
            termCount++;
            if (isOffsetTerm(term)) {
                int offset = term - OFFSET_ZERO;
                lowest = Math.max(lowest, -offset);
                highest = Math.min(highest, SYMBOLS - 1 - offset);
            }
        }

        int valueAt(int i, int symbol) {
            return isOffsetTerm(terms[i]) ? symbol + terms[i] - OFFSET_ZERO : terms[i];
        }

        boolean isEnabled(int symbol) {
            return symbol >= lowest && symbol <= highest && guard.has(symbol);
        }

        boolean isEverEnabled() {
            return guard.meetsWithin(guard, lowest, highest);
        }

        boolean isEnabledWith(Rule other) {
            int first = Math.max(lowest, other.lowest);
            int last = Math.min(highest, other.highest);
            return guard.meetsWithin(other.guard, first, last);
        }

        void enabledInto(SymbolSet target) {
            target.copyFrom(guard);
            target.keep(lowest, highest);
        }
    }

    private static final class Transducer {
        private final Rule[] list = new Rule[RULES];
        private int size;
        private int finalStates;

        Transducer() {
            for (int i = 0; i < RULES; i++) {
                list[i] = new Rule();
            }
        }

        void clear() {
            size = 0;
            finalStates = 0;
        }

        void copyFrom(Transducer other) {
            for (int i = 0; i < other.size; i++) {
                list[i].copyFrom(other.list[i]);
            }
            size = other.size;
            finalStates = other.finalStates;
        }

        boolean isFull() {
            return size >= RULES;
        }

        /** The new last rule, with no guard and no terms yet; there must be room for it. */
        Rule append(int from, int to) {
            if (size < RULES) {
                size++;
            }
            Rule added = list[size - 1];
            added.begin(from, to);
            return added;
        }

        /** The removed object goes behind the others, where the next rule that is added uses it. */
        void remove(int index) {
            Rule removed = list[index];
            for (int i = index + 1; i < size; i++) {
                list[i - 1] = list[i];
            }
            list[size - 1] = removed;
            size--;
        }

        boolean hasFinal(int state) {
            return hasState(finalStates, state);
        }

        void markFinal(int state, boolean isFinal) {
            if (isFinal) {
                finalStates |= 1 << state;
            } else {
                finalStates &= ~(1 << state);
            }
        }

        int reachedStates() {
            int found = 1;
            for (int round = 1; round < STATES; round++) {
                for (int i = 0; i < size; i++) {
                    Rule rule = list[i];
                    if (hasState(found, rule.from) && rule.isEverEnabled()) {
                        found |= 1 << rule.to;
                    }
                }
            }
            return found;
        }

        /** The states from which a final state can be reached. */
        int hopefulStates() {
            int found = finalStates;
            for (int round = 1; round < STATES; round++) {
                found = withSources(found);
            }
            return found;
        }

        /** The states of the set and those from which one rule leads into it. */
        int withSources(int states) {
            int found = states;
            for (int i = 0; i < size; i++) {
                Rule rule = list[i];
                if (hasState(states, rule.to) && rule.isEverEnabled()) {
                    found |= 1 << rule.from;
                }
            }
            return found;
        }

        void keepSymbols(int low, int high) {
            for (int i = size - 1; i >= 0; i--) {
                list[i].guard.keep(low, high);
                if (list[i].guard.isEmpty()) {
                    remove(i);
                }
            }
        }

        void dropUseless() {
            int reached = reachedStates();
            int hopeful = hopefulStates();
            for (int i = size - 1; i >= 0; i--) {
                if (!isUseful(list[i], reached, hopeful)) {
                    remove(i);
                }
            }
        }

        static boolean isUseful(Rule rule, int reached, int hopeful) {
            return hasState(reached, rule.from)
                    && hasState(hopeful, rule.to)
                    && rule.isEverEnabled();
        }

        /** Every rule of the source has one term, an offset. */
        void becomeInverse(Transducer source) {
            clear();
            finalStates = source.finalStates;
            for (int i = 0; i < source.size; i++) {
                Rule rule = source.list[i];
                if (rule.isEverEnabled()) {
                    int offset = rule.terms[0] - OFFSET_ZERO;
                    Rule inverse = append(rule.from, rule.to);
                    rule.enabledInto(inverse.guard);
                    inverse.guard.shift(offset);
                    inverse.append(OFFSET_ZERO - offset);
                }
            }
        }
    }

    /** What the slots held before the latest changes: a ring whose oldest entry is written over. */
    private static final class History {
        private final Transducer[] before = new Transducer[CHANGES_KEPT];
        private final int[] changed = new int[CHANGES_KEPT];
        private int next;
        private int size;

        History() {
            for (int i = 0; i < CHANGES_KEPT; i++) {
                before[i] = new Transducer();
            }
        }

        void save(int slot, Transducer content) {
            before[next].copyFrom(content);
            changed[next] = slot;
            next = (next + 1) % CHANGES_KEPT;
            size = Math.min(size + 1, CHANGES_KEPT);
        }

        /** There is a change to take back. */
        int takeBack(Transducer[] slots) {
            next = (next + CHANGES_KEPT - 1) % CHANGES_KEPT;
            size--;
            int slot = changed[next];
            slots[slot].copyFrom(before[next]);
            return slot;
        }
    }

    /** The input buffer and the reading of its text, which never looks further than a character. */
    private static final class Reader {
        private final char[] letters = new char[LONGEST_TEXT];
        private int length;
        /** Where the reading is; where it failed, the error position. */
        private int at;
        private int number;
        private final Rule rule = new Rule();
        private boolean hasWrongNumber;
        private boolean hasTooManyRules;

        void append(char letter) {
            if (length < LONGEST_TEXT) {
                letters[length] = letter;
                length++;
            }
        }

        void clear() {
            length = 0;
        }

        /** Whether the text is correct; the target holds what it says, unless a number is wrong. */
        boolean readInto(Transducer target) {
            target.clear();
            at = 0;
            hasWrongNumber = false;
            hasTooManyRules = false;
            if (length == 0) {
                return true;
            }
            for (int i = 0; i < LONGEST_TEXT; i++) {
                boolean isItem = skip('!') ? readFinal(target) : readRule(target);
                if (!isItem) {
                    return false;
                }
                if (at >= length) {
                    return true;
                }
                if (!skip(';')) {
                    return false;
                }
            }
            return false;
        }

        private boolean readFinal(Transducer target) {
            if (!readNumber()) {
                return false;
            }
            if (isState(number)) {
                target.markFinal(number, true);
            }
            return true;
        }

        private boolean readRule(Transducer target) {
            if (!readNumber()) {
                return false;
            }
            int from = number;
            if (!skip('>') || !readNumber()) {
                return false;
            }
            int to = number;
            rule.begin(from, to);
            if (!skip(':') || !readRanges() || !skip('/') || !readTerms()) {
                return false;
            }
            if (isState(from) && isState(to)) {
                keepRule(target);
            }
            return true;
        }

        private boolean isState(int state) {
            if (state >= STATES) {
                hasWrongNumber = true;
            }
            return state < STATES;
        }

        private void keepRule(Transducer target) {
            if (target.isFull()) {
                hasTooManyRules = true;
            } else {
                target.append(rule.from, rule.to).copyFrom(rule);
            }
        }

        private boolean readRanges() {
            for (int i = 0; i < LONGEST_TEXT; i++) {
                if (!readRange()) {
                    return false;
                }
                if (!skip(',')) {
                    return true;
                }
            }
            return true;
        }

        private boolean readRange() {
            if (!readNumber()) {
                return false;
            }
            int low = number;
            if (skip('-') && !readNumber()) {
                return false;
            }
            if (number < low) {
                hasWrongNumber = true;
            } else {
                rule.guard.include(low, number);
            }
            return true;
        }

        private boolean readTerms() {
            if (!isAt('x') && !isAtDigit()) {
                return true;
            }
            for (int i = 0; i < LONGEST_TEXT; i++) {
                if (!readTerm()) {
                    return false;
                }
                if (!skip(',')) {
                    return true;
                }
            }
            return true;
        }

        private boolean readTerm() {
            int sign = 0;
            boolean isOffset = skip('x');
            if (!isOffset || skip('+')) {
                sign = 1;
            } else if (skip('-')) {
                sign = -1;
            }
            if (sign != 0 && !readNumber()) {
                return false;
            }
            if (rule.termCount >= TERMS) {
                hasWrongNumber = true;
            } else {
                rule.append((isOffset ? OFFSET_ZERO : 0) + sign * number);
            }
            return true;
        }

        private boolean readNumber() {
            if (!isAtDigit()) {
                return false;
            }
            number = takeDigit();
            if (isAtDigit()) {
                number = number * 10 + takeDigit();
            }
            return true;
        }

        private int takeDigit() {
            int digit = at < length ? letters[at] - '0' : 0;
            at++;
            return digit;
        }

        private boolean isAtDigit() {
            return at < length && letters[at] >= '0' && letters[at] <= '9';
        }

        private boolean isAt(char letter) {
            return at < length && letters[at] == letter;
        }

        private boolean skip(char letter) {
            boolean isThere = isAt(letter);
            if (isThere) {
                at++;
            }
            return isThere;
        }
    }

    private static final class Word {
        private final int[] symbols = new int[LONGEST_OUTPUT];
        private int length;

        void clear() {
            length = 0;
        }

        void append(int symbol) {
            if (length < LONGEST_OUTPUT) {
                symbols[length] = symbol;
                length++;
            }
        }

        void appendAll(Word other) {
            for (int i = 0; i < other.length; i++) {
                append(other.symbols[i]);
            }
        }

        void appendOutput(Rule rule, int symbol) {
            for (int i = 0; i < rule.termCount; i++) {
                append(rule.valueAt(i, symbol));
            }
        }

        void copyFrom(Word other) {
            System.arraycopy(other.symbols, 0, symbols, 0, LONGEST_OUTPUT);
            length = other.length;
        }

        boolean comesBefore(Word other) {
            int shared = Math.min(length, other.length);
            for (int i = 0; i < shared; i++) {
                if (symbols[i] != other.symbols[i]) {
                    return symbols[i] < other.symbols[i];
                }
            }
            return length < other.length;
        }
    }

    /** Runs on the word, and what they put out. */
    private static final class Outputs {
        private final long[] counts = new long[STATES];
        private final long[] nextCounts = new long[STATES];
        /** For each state the chosen output from there to the end of the word. */
        private final Word[] chosen = new Word[STATES];
        private final Word[] earlier = new Word[STATES];
        private final Word candidate = new Word();
        private final SymbolSet enabled = new SymbolSet();
        private final SymbolSet found = new SymbolSet();
        private int hopeful;

        Outputs() {
            for (int i = 0; i < STATES; i++) {
                chosen[i] = new Word();
                earlier[i] = new Word();
            }
        }

        long countRuns(Transducer transducer, Word word) {
            Arrays.fill(counts, 0);
            counts[0] = 1;
            for (int i = 0; i < word.length; i++) {
                countStep(transducer, word.symbols[i]);
            }
            long sum = 0;
            for (int state = 0; state < STATES; state++) {
                if (transducer.hasFinal(state)) {
                    sum += counts[state];
                }
            }
            return sum;
        }

        private void countStep(Transducer transducer, int symbol) {
            Arrays.fill(nextCounts, 0);
            for (int i = 0; i < transducer.size; i++) {
                Rule rule = transducer.list[i];
                if (rule.isEnabled(symbol)) {
                    nextCounts[rule.to] += counts[rule.from];
                }
            }
            System.arraycopy(nextCounts, 0, counts, 0, STATES);
        }

        /**
         * Works from the end of the word to its beginning: the choice among outputs that begin
         * alike is the choice among what follows, so one output a state is enough.
         */
        boolean find(Transducer transducer, Word word, boolean isLast, Word target) {
            hopeful = transducer.finalStates;
            for (int state = 0; state < STATES; state++) {
                chosen[state].clear();
            }
            for (int i = word.length - 1; i >= 0; i--) {
                chooseEarlier(transducer, word.symbols[i], isLast);
            }
            boolean isFound = hasState(hopeful, 0);
            if (isFound) {
                target.copyFrom(chosen[0]);
            }
            return isFound;
        }

        private void chooseEarlier(Transducer transducer, int symbol, boolean isLast) {
            int reached = 0;
            for (int i = 0; i < transducer.size; i++) {
                Rule rule = transducer.list[i];
                if (hasState(hopeful, rule.to) && rule.isEnabled(symbol)) {
                    candidate.clear();
                    candidate.appendOutput(rule, symbol);
                    candidate.appendAll(chosen[rule.to]);
                    Word best = earlier[rule.from];
                    if (!hasState(reached, rule.from) || isBetter(best, isLast)) {
                        best.copyFrom(candidate);
                    }
                    reached |= 1 << rule.from;
                }
            }
            hopeful = reached;
            for (int state = 0; state < STATES; state++) {
                chosen[state].copyFrom(earlier[state]);
            }
        }

        private boolean isBetter(Word best, boolean isLast) {
            return isLast ? best.comesBefore(candidate) : candidate.comesBefore(best);
        }

        int countSymbols(Transducer transducer) {
            int reached = transducer.reachedStates();
            int ending = transducer.hopefulStates();
            found.clear();
            for (int i = 0; i < transducer.size; i++) {
                Rule rule = transducer.list[i];
                if (Transducer.isUseful(rule, reached, ending)) {
                    includeValues(rule);
                }
            }
            return found.size();
        }

        private void includeValues(Rule rule) {
            for (int i = 0; i < rule.termCount; i++) {
                int term = rule.terms[i];
                if (isOffsetTerm(term)) {
                    rule.enabledInto(enabled);
                    enabled.shift(term - OFFSET_ZERO);
                    found.include(enabled);
                } else {
                    found.include(term, term);
                }
            }
        }
    }

    /** The states to which a transducer comes from a set of states by a symbol. */
    private static final class Steps {
        private final int[] targets = new int[STATES * SYMBOLS];
        private int finalStates;

        void load(Transducer transducer) {
            Arrays.fill(targets, 0);
            finalStates = transducer.finalStates;
            for (int i = 0; i < transducer.size; i++) {
                Rule rule = transducer.list[i];
                for (int symbol = 0; symbol < SYMBOLS; symbol++) {
                    if (rule.isEnabled(symbol)) {
                        targets[rule.from * SYMBOLS + symbol] |= 1 << rule.to;
                    }
                }
            }
        }

        int after(int states, int symbol) {
            int reached = 0;
            for (int state = 0; state < STATES; state++) {
                if (hasState(states, state)) {
                    reached |= targets[state * SYMBOLS + symbol];
                }
            }
            return reached;
        }

        boolean isAlike(int symbol, int other) {
            for (int state = 0; state < STATES; state++) {
                if (targets[state * SYMBOLS + symbol] != targets[state * SYMBOLS + other]) {
                    return false;
                }
            }
            return true;
        }

        boolean isAccepting(int states) {
            return (states & finalStates) != 0;
        }
    }

    /** Questions about domains, by way of the sets of states that words lead to. */
    private static final class Domains {
        private final Steps steps = new Steps();
        private final Steps otherSteps = new Steps();
        /** Neighbouring symbols that lead to the same states are a group, which one stands for. */
        private final int[] groupSymbol = new int[SYMBOLS];
        private final int[] groupSize = new int[SYMBOLS];
        private int groupCount;
        /** How many words lead to a set; it holds only for the sets that are listed. */
        private final long[] counts = new long[STATE_SETS];
        /** The same for words that are one longer; all 0 when none are being counted. */
        private final long[] nextCounts = new long[STATE_SETS];
        /** The list of sets that have a count, or the ring of sets that wait. */
        private final int[] sets = new int[STATE_SETS];
        private final int[] nextSets = new int[STATE_SETS];
        private int setCount;
        private int firstSet;
        /** By a set of the outer transducer's states, the inner one's states met with it. */
        private final int[] met = new int[STATE_SETS];
        private final int[] waiting = new int[STATE_SETS];
        /** By a number of steps, the states from which so many or fewer lead to a final one. */
        private final int[] near = new int[STATES];

        private void findGroups(Steps one, Steps other) {
            groupCount = 0;
            for (int symbol = 0; symbol < SYMBOLS; symbol++) {
                if (groupCount > 0
                        && one.isAlike(symbol - 1, symbol)
                        && other.isAlike(symbol - 1, symbol)) {
                    groupSize[groupCount - 1]++;
                } else {
                    groupSymbol[groupCount] = symbol;
                    groupSize[groupCount] = 1;
                    groupCount++;
                }
            }
        }

        long countWords(Transducer transducer, int length) {
            steps.load(transducer);
            findGroups(steps, steps);
            counts[1] = 1;
            sets[0] = 1;
            setCount = 1;
            for (int i = 0; i < length; i++) {
                countLonger();
            }
            long sum = 0;
            for (int i = 0; i < setCount; i++) {
                if (steps.isAccepting(sets[i])) {
                    sum += counts[sets[i]];
                }
            }
            return sum;
        }

        private void countLonger() {
            int nextCount = 0;
            for (int i = 0; i < setCount; i++) {
                for (int group = 0; group < groupCount; group++) {
                    int reached = steps.after(sets[i], groupSymbol[group]);
                    if (reached != 0) {
                        if (nextCounts[reached] == 0) {
                            nextSets[nextCount] = reached;
                            nextCount++;
                        }
                        nextCounts[reached] += counts[sets[i]] * groupSize[group];
                    }
                }
            }
            takeNext(nextCount);
        }

        private void takeNext(int nextCount) {
            for (int i = 0; i < nextCount; i++) {
                int set = nextSets[i];
                sets[i] = set;
                counts[set] = nextCounts[set];
                nextCounts[set] = 0;
            }
            setCount = nextCount;
        }

        /**
         * Whether every word of the inner domain is in the outer one: no word leads the inner
         * transducer to a final state and the outer one to a set of states without a final one.
         */
        boolean isContained(Transducer inner, Transducer outer) {
            steps.load(inner);
            otherSteps.load(outer);
            findGroups(steps, otherSteps);
            Arrays.fill(met, 0);
            Arrays.fill(waiting, 0);
            setCount = 0;
            firstSet = 0;
            if (!meet(1, 1)) {
                return false;
            }
            for (int i = 0; i < STATES * STATE_SETS && setCount > 0; i++) {
                if (!followFirst()) {
                    return false;
                }
            }
            return true;
        }

        private boolean followFirst() {
            int set = sets[firstSet];
            firstSet = (firstSet + 1) % STATE_SETS;
            setCount--;
            int states = waiting[set];
            waiting[set] = 0;
            for (int group = 0; group < groupCount; group++) {
                int symbol = groupSymbol[group];
                if (!meet(steps.after(states, symbol), otherSteps.after(set, symbol))) {
                    return false;
                }
            }
            return true;
        }

        /** A set waits once at most, so the ring has room for all. */
        private boolean meet(int states, int set) {
            int fresh = states & ~met[set];
            if (fresh == 0) {
                return true;
            }
            if (steps.isAccepting(fresh) && !otherSteps.isAccepting(set)) {
                return false;
            }
            met[set] |= fresh;
            if (waiting[set] == 0) {
                sets[(firstSet + setCount) % STATE_SETS] = set;
                setCount++;
            }
            waiting[set] |= fresh;
            return true;
        }

        boolean findShortest(Transducer transducer, Word target) {
            near[0] = transducer.finalStates;
            for (int i = 1; i < STATES; i++) {
                near[i] = transducer.withSources(near[i - 1]);
            }
            if (!hasState(near[STATES - 1], 0)) {
                return false;
            }
            int length = 0;
            while (length < STATES - 1 && !hasState(near[length], 0)) {
                length++;
            }
            steps.load(transducer);
            target.clear();
            int states = 1;
            for (int left = length - 1; left >= 0; left--) {
                int symbol = firstSymbol(states, near[left]);
                target.append(symbol);
                states = steps.after(states, symbol) & near[left];
            }
            return true;
        }

        private int firstSymbol(int states, int wanted) {
            int symbol = 0;
            while (symbol < SYMBOLS - 1 && (steps.after(states, symbol) & wanted) == 0) {
                symbol++;
            }
            return symbol;
        }
    }

    /**
     * Runs of two transducers on the same words, side by side. For a pair of states from which both
     * can accept a word together, what one output is ahead of the other must not depend on the way
     * to the pair, or some word has two different outputs.
     */
    private static final class Pairing {
        private static final int PAIRS = STATES * STATES;
        /** A pair is found after at most PAIRS - 1 rules, and one more is tried from there. */
        private static final int LONGEST = PAIRS * TERMS;

        private final boolean[] isHopeful = new boolean[PAIRS];
        private final boolean[] isFound = new boolean[PAIRS];
        private final int[] found = new int[PAIRS];
        private int foundCount;
        /** By how many symbols the first output is ahead; negative if it is the second one. */
        private final int[] lead = new int[PAIRS];
        /** Where the symbols that are ahead begin in the pool. */
        private final int[] start = new int[PAIRS];
        private int[] pool = new int[LONGEST];
        private int poolSize;
        private final int[] first = new int[LONGEST];
        private final int[] second = new int[LONGEST];
        private int firstLength;
        private int secondLength;

        /** Whether no word has an output of one and a different output of the other. */
        boolean isAgreed(Transducer one, Transducer other) {
            for (int pair = 0; pair < PAIRS; pair++) {
                isFound[pair] = false;
                isHopeful[pair] = isFinalPair(one, other, pair);
            }
            findHopeful(one, other);
            foundCount = 0;
            poolSize = 0;
            firstLength = 0;
            secondLength = 0;
            if (isHopeful[0]) {
                keepPair(0, 0);
            }
            for (int i = 0; i < PAIRS && i < foundCount; i++) {
                if (!follow(one, other, found[i])) {
                    return false;
                }
            }
            return true;
        }

        /** Final pairs are marked already; the pairs that lead to marked ones are marked too. */
        private void findHopeful(Transducer one, Transducer other) {
            boolean isChanged = true;
            for (int round = 0; round < PAIRS && isChanged; round++) {
                isChanged = false;
                for (int i = 0; i < one.size; i++) {
                    if (addHopeful(one.list[i], other)) {
                        isChanged = true;
                    }
                }
            }
        }

        private static boolean isFinalPair(Transducer one, Transducer other, int pair) {
            return one.hasFinal(pair / STATES) && other.hasFinal(pair % STATES);
        }

        private boolean addHopeful(Rule rule, Transducer other) {
            boolean isChanged = false;
            for (int i = 0; i < other.size; i++) {
                Rule partner = other.list[i];
                int source = rule.from * STATES + partner.from;
                int goal = rule.to * STATES + partner.to;
                if (!isHopeful[source] && isHopeful[goal] && rule.isEnabledWith(partner)) {
                    isHopeful[source] = true;
                    isChanged = true;
                }
            }
            return isChanged;
        }

        private boolean follow(Transducer one, Transducer other, int pair) {
            for (int i = 0; i < one.size; i++) {
                for (int j = 0; j < other.size; j++) {
                    Rule rule = one.list[i];
                    Rule partner = other.list[j];
                    boolean isFromPair = rule.from * STATES + partner.from == pair;
                    if (isFromPair && !followRules(one, other, rule, partner)) {
                        return false;
                    }
                }
            }
            return true;
        }

        private boolean followRules(Transducer one, Transducer other, Rule rule, Rule partner) {
            int source = rule.from * STATES + partner.from;
            int goal = rule.to * STATES + partner.to;
            if (!isHopeful[goal] || !rule.isEnabledWith(partner)) {
                return true;
            }
            boolean isEnd = isFinalPair(one, other, goal);
            for (int symbol = 0; symbol < SYMBOLS; symbol++) {
                if (rule.isEnabled(symbol) && partner.isEnabled(symbol)) {
                    loadAhead(source);
                    appendOutputs(rule, partner, symbol);
                    if (!isFitting(goal, isEnd)) {
                        return false;
                    }
                }
            }
            return true;
        }

        private void loadAhead(int pair) {
            firstLength = Math.max(lead[pair], 0);
            secondLength = Math.max(-lead[pair], 0);
            System.arraycopy(pool, start[pair], first, 0, firstLength);
            System.arraycopy(pool, start[pair], second, 0, secondLength);
        }

        private void appendOutputs(Rule rule, Rule partner, int symbol) {
            for (int i = 0; i < rule.termCount && firstLength < LONGEST; i++) {
                first[firstLength] = rule.valueAt(i, symbol);
                firstLength++;
            }
            for (int i = 0; i < partner.termCount && secondLength < LONGEST; i++) {
                second[secondLength] = partner.valueAt(i, symbol);
                secondLength++;
            }
        }

        /** Compares both outputs, and what is ahead with what was ahead on an earlier way. */
        private boolean isFitting(int goal, boolean isEnd) {
            int shared = Math.min(firstLength, secondLength);
            for (int i = 0; i < shared; i++) {
                if (first[i] != second[i]) {
                    return false;
                }
            }
            if (isEnd && firstLength != secondLength) {
                return false;
            }
            if (isFound[goal]) {
                return isSameLead(goal, shared);
            }
            keepPair(goal, shared);
            return true;
        }

        private boolean isSameLead(int pair, int shared) {
            if (lead[pair] != firstLength - secondLength) {
                return false;
            }
            int[] longer = firstLength > secondLength ? first : second;
            int length = Math.max(firstLength, secondLength) - shared;
            for (int i = 0; i < length; i++) {
                if (pool[start[pair] + i] != longer[shared + i]) {
                    return false;
                }
            }
            return true;
        }

        private void keepPair(int pair, int shared) {
            int[] longer = firstLength > secondLength ? first : second;
            int length = Math.max(firstLength, secondLength) - shared;
            if (poolSize + length > pool.length) {
                // A length is at most LONGEST, as the pool is at least, so twice as much is enough.
                pool = Arrays.copyOf(pool, pool.length * 2);
            }
            System.arraycopy(longer, shared, pool, poolSize, length);
            isFound[pair] = true;
            lead[pair] = firstLength - secondLength;
            start[pair] = poolSize;
            poolSize += length;
            found[foundCount] = pair;
            foundCount++;
        }
    }

    /** Builds compositions. */
    private static final class Composer {
        /** The pairs of states by their numbers. */
        private final int[] pairs = new int[STATES];
        private int pairCount;
        /** The numbers of the rules of the sequence. */
        private final int[] chosen = new int[TERMS];
        /** By the length of the sequence, the symbols for which it is enabled. */
        private final SymbolSet[] guards = new SymbolSet[TERMS + 1];
        /**
         * By term and state, the symbols for which some rules take this term and the later ones.
         * Without it, sequences that end in nothing could be far too many to try.
         */
        private final SymbolSet[] open = new SymbolSet[(TERMS + 1) * STATES];
        private final SymbolSet trial = new SymbolSet();
        private boolean isFitting;

        Composer() {
            for (int i = 0; i < guards.length; i++) {
                guards[i] = new SymbolSet();
            }
            for (int i = 0; i < open.length; i++) {
                open[i] = new SymbolSet();
            }
        }

        /** Whether the composition fits into a transducer. */
        boolean build(Transducer a, Transducer b, Transducer target) {
            target.clear();
            isFitting = true;
            pairs[0] = 0;
            pairCount = 1;
            for (int n = 0; n < STATES && n < pairCount; n++) {
                addRulesFrom(n, a, b, target);
            }
            for (int n = 0; n < pairCount; n++) {
                target.markFinal(n, a.hasFinal(pairs[n] / STATES) && b.hasFinal(pairs[n] % STATES));
            }
            return isFitting;
        }

        private void addRulesFrom(int n, Transducer a, Transducer b, Transducer target) {
            int state = pairs[n] % STATES;
            for (int i = 0; i < a.size && isFitting; i++) {
                Rule rule = a.list[i];
                if (rule.from == pairs[n] / STATES) {
                    rule.enabledInto(guards[0]);
                    findOpen(rule, b);
                    if (guards[0].meets(open[state])) {
                        extend(rule, b, target, n, 0, state);
                    }
                }
            }
        }

        private void findOpen(Rule rule, Transducer b) {
            for (int state = 0; state < STATES; state++) {
                open[rule.termCount * STATES + state].copyFrom(guards[0]);
            }
            for (int k = rule.termCount - 1; k >= 0; k--) {
                for (int state = 0; state < STATES; state++) {
                    open[k * STATES + state].clear();
                }
                for (int i = 0; i < b.size; i++) {
                    Rule next = b.list[i];
                    findTakers(rule.terms[k], next, trial);
                    trial.keep(open[(k + 1) * STATES + next.to]);
                    open[k * STATES + next.from].include(trial);
                }
            }
        }

        /** The symbols for which the value of the term is one that the next rule is enabled for. */
        private static void findTakers(int term, Rule next, SymbolSet target) {
            if (isOffsetTerm(term)) {
                next.enabledInto(target);
                target.shift(OFFSET_ZERO - term);
            } else if (next.isEnabled(term)) {
                target.fill();
            } else {
                target.clear();
            }
        }

        /** The depth is the number of rules that are chosen; it ends at the number of terms. */
        private void extend(
                Rule rule, Transducer b, Transducer target, int n, int depth, int state) {
            if (depth >= rule.termCount || depth >= TERMS) {
                addCombined(rule, b, target, n, state);
                return;
            }
            for (int i = 0; i < b.size && isFitting; i++) {
                Rule next = b.list[i];
                if (next.from == state) {
                    findTakers(rule.terms[depth], next, guards[depth + 1]);
                    guards[depth + 1].keep(guards[depth]);
                    if (guards[depth + 1].meets(open[(depth + 1) * STATES + next.to])) {
                        chosen[depth] = i;
                        extend(rule, b, target, n, depth + 1, next.to);
                    }
                }
            }
        }

        private void addCombined(Rule rule, Transducer b, Transducer target, int n, int state) {
            int to = numberOf(rule.to * STATES + state);
            if (to >= STATES || target.isFull()) {
                isFitting = false;
                return;
            }
            Rule combined = target.append(n, to);
            combined.guard.copyFrom(guards[rule.termCount]);
            for (int k = 0; k < rule.termCount; k++) {
                Rule taker = b.list[chosen[k]];
                if (combined.termCount + taker.termCount > TERMS) {
                    isFitting = false;
                    return;
                }
                for (int i = 0; i < taker.termCount; i++) {
                    int term = taker.terms[i];
                    // The sum is a constant if the term of the first rule is one, else an offset.
                    combined.append(isOffsetTerm(term) ? rule.terms[k] + term - OFFSET_ZERO : term);
                }
            }
        }

        /** STATES if the pair is new and there is no number for it. */
        private int numberOf(int pair) {
            for (int n = 0; n < pairCount; n++) {
                if (pairs[n] == pair) {
                    return n;
                }
            }
            if (pairCount >= STATES) {
                return STATES;
            }
            pairs[pairCount] = pair;
            pairCount++;
            return pairCount - 1;
        }
    }
}
