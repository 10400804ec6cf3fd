import java.util.function.Function;
import java.util.function.Supplier;

/**
 * Every refused call of every promise: what it throws, which exception comes first where several apply,
 * and that it leaves all as it was, in a bench with something of everything and in a full one.
 */
public final class RefusedTest {
    private static final Sentences S = new Sentences();
    private static final Class<?> ARGUMENT = IllegalArgumentException.class;
    private static final Class<?> INDEX = IndexOutOfBoundsException.class;
    private static final Class<?> STATE = IllegalStateException.class;
    private static final Class<?> NONE = java.util.NoSuchElementException.class;
    private static final Class<?> UNSUPPORTED = UnsupportedOperationException.class;
    private static final int LEAST = Integer.MIN_VALUE;
    private static final int MOST = Integer.MAX_VALUE;
    private static final int[] NO_SLOTS = {-1, 4, LEAST, MOST};
    private static final int[] NO_STATES = {-1, 12, LEAST, MOST};
    private static final int[] NO_SYMBOLS = {-1, 100, LEAST, MOST};
    /** Slot 0 of the ordinary bench has three rules. */
    private static final int[] NO_RULES = {-1, 3, LEAST, MOST};
    private static final String FIRST = "If several exceptions apply, the one named first is thrown.";
    private static final String NO_SLOT = "Throws IllegalArgumentException if there is no such slot";
    private static final String NO_RULE = "Throws IndexOutOfBoundsException if there is no such rule";
    private static final String ONE_SLOT =
            "Throws IllegalArgumentException if one of the slots does not exist";

    public static void main(String[] args) {
        setFinal();
        addRule();
        addRange();
        addTerm();
        removeRule();
        numbers();
        rule();
        range();
        term();
        valueOf();
        feedAndParse();
        word();
        transduce();
        domains();
        shortestInput();
        isEquivalent();
        compose();
        invert();
        restrict();
        trimAndCopy();
        undo();
        S.end();
    }

    private static void ordinary(
            String what, Class<?> want, Function<TransducerBench, Object> call) {
        S.refused(what, want, () -> Views.ordinary(), call);
    }

    private static void full(String what, Class<?> want, Function<TransducerBench, Object> call) {
        S.refused(what + " in a full bench", want, () -> Views.full(), call);
    }

    private static Supplier<TransducerBench> with(String... texts) {
        return () -> Check.bench(texts);
    }

    private static void setFinal() {
        S.sentence("Promise 2",
                "Throws IllegalArgumentException if there is no such slot or state");
        for (int slot : NO_SLOTS) {
            ordinary("slot " + slot, ARGUMENT, x -> x.setFinal(slot, 0, true));
            ordinary("slot " + slot + ", not final", ARGUMENT, x -> x.setFinal(slot, 11, false));
        }
        for (int state : NO_STATES) {
            ordinary("state " + state, ARGUMENT, x -> x.setFinal(0, state, true));
            ordinary("state " + state + ", not final", ARGUMENT, x -> x.setFinal(3, state, false));
        }
        ordinary("slot and state", ARGUMENT, x -> x.setFinal(4, 12, true));
    }

    private static void addRule() {
        S.sentence("Promise 3", "Throws IllegalArgumentException if there is no such slot, state or "
                + "symbol, or high is below low");
        for (int slot : NO_SLOTS) {
            ordinary("slot " + slot, ARGUMENT, x -> x.addRule(slot, 0, 0, 0, 0));
        }
        for (int state : NO_STATES) {
            ordinary("from " + state, ARGUMENT, x -> x.addRule(0, state, 0, 0, 0));
            ordinary("to " + state, ARGUMENT, x -> x.addRule(0, 0, state, 0, 0));
        }
        for (int symbol : NO_SYMBOLS) {
            ordinary("low " + symbol, ARGUMENT, x -> x.addRule(0, 0, 0, symbol, 99));
            ordinary("high " + symbol, ARGUMENT, x -> x.addRule(0, 0, 0, 0, symbol));
            ordinary("both " + symbol, ARGUMENT, x -> x.addRule(0, 0, 0, symbol, symbol));
        }
        ordinary("high below low", ARGUMENT, x -> x.addRule(0, 0, 0, 1, 0));
        ordinary("high far below low", ARGUMENT, x -> x.addRule(0, 0, 0, 99, 0));
        S.sentence("Promise 3", "Throws IllegalStateException if there are 40 rules");
        full("a rule", STATE, x -> x.addRule(3, 0, 0, 0, 0));
        full("another rule", STATE, x -> x.addRule(3, 11, 11, 99, 99));
        S.sentence("Promise 3", FIRST);
        full("from", ARGUMENT, x -> x.addRule(3, 12, 0, 0, 0));
        full("to", ARGUMENT, x -> x.addRule(3, 0, -1, 0, 0));
        full("low", ARGUMENT, x -> x.addRule(3, 0, 0, -1, 0));
        full("high", ARGUMENT, x -> x.addRule(3, 0, 0, 0, 100));
        full("high below low", ARGUMENT, x -> x.addRule(3, 0, 0, 1, 0));
        // A slot that does not exist has no 40 rules, so that these two never apply together.
        full("slot", ARGUMENT, x -> x.addRule(4, 0, 0, 0, 0));
    }

    private static void addRange() {
        S.sentence("Promise 4", "Throws IllegalArgumentException if there is no such slot or symbol, "
                + "or high is below low");
        for (int slot : NO_SLOTS) {
            ordinary("slot " + slot, ARGUMENT, x -> x.addRange(slot, 0, 0, 0));
        }
        for (int symbol : NO_SYMBOLS) {
            ordinary("low " + symbol, ARGUMENT, x -> x.addRange(0, 0, symbol, 99));
            ordinary("high " + symbol, ARGUMENT, x -> x.addRange(0, 0, 0, symbol));
            ordinary("both " + symbol, ARGUMENT, x -> x.addRange(0, 0, symbol, symbol));
        }
        ordinary("high below low", ARGUMENT, x -> x.addRange(0, 0, 15, 14));
        S.sentence("Promise 4", NO_RULE);
        for (int rule : NO_RULES) {
            ordinary("rule " + rule, INDEX, x -> x.addRange(0, rule, 0, 0));
        }
        full("rule 40", INDEX, x -> x.addRange(3, 40, 0, 0));
        full("the empty slot's rule 0", INDEX, x -> x.addRange(0, 0, 0, 0));
        S.sentence("Promise 4", FIRST);
        ordinary("slot and rule", ARGUMENT, x -> x.addRange(4, 0, 0, 0));
        ordinary("low and rule", ARGUMENT, x -> x.addRange(0, 3, -1, 0));
        ordinary("high and rule", ARGUMENT, x -> x.addRange(0, 3, 0, 100));
        ordinary("high below low and rule", ARGUMENT, x -> x.addRange(0, -1, 1, 0));
    }

    private static void addTerm() {
        S.sentence("Promise 5",
                "Throws IllegalArgumentException if there is no such slot, or the value is out of range");
        for (int slot : NO_SLOTS) {
            ordinary("slot " + slot, ARGUMENT, x -> x.addTerm(slot, 0, true, 0));
        }
        for (int value : NO_SYMBOLS) {
            ordinary("constant " + value, ARGUMENT, x -> x.addTerm(0, 0, false, value));
        }
        for (int value : new int[] {-100, 100, LEAST, MOST}) {
            ordinary("offset " + value, ARGUMENT, x -> x.addTerm(0, 0, true, value));
        }
        ordinary("constant -99", ARGUMENT, x -> x.addTerm(0, 0, false, -99));
        ordinary("the number that term would answer", ARGUMENT, x -> x.addTerm(0, 0, true, 1000));
        S.sentence("Promise 5", NO_RULE);
        for (int rule : NO_RULES) {
            ordinary("rule " + rule, INDEX, x -> x.addTerm(0, rule, false, 0));
        }
        full("rule 40", INDEX, x -> x.addTerm(3, 40, true, 0));
        full("the empty slot's rule 0", INDEX, x -> x.addTerm(1, 0, true, 0));
        S.sentence("Promise 5", "Throws IllegalStateException if the rule has 6 terms");
        full("an offset", STATE, x -> x.addTerm(3, 0, true, 0));
        full("a constant", STATE, x -> x.addTerm(3, 0, false, 0));
        S.sentence("Promise 5", FIRST);
        ordinary("slot and rule", ARGUMENT, x -> x.addTerm(-1, 0, true, 0));
        ordinary("value and rule", ARGUMENT, x -> x.addTerm(0, 3, true, 100));
        full("value and 6 terms", ARGUMENT, x -> x.addTerm(3, 0, false, 100));
        full("offset and 6 terms", ARGUMENT, x -> x.addTerm(3, 0, true, -100));
        // A rule that does not exist has no 6 terms, so that these two never apply together.
    }

    private static void removeRule() {
        S.sentence("Promise 6", NO_SLOT);
        for (int slot : NO_SLOTS) {
            ordinary("slot " + slot, ARGUMENT, x -> x.removeRule(slot, 0));
        }
        S.sentence("Promise 6", NO_RULE);
        for (int rule : NO_RULES) {
            ordinary("rule " + rule, INDEX, x -> x.removeRule(0, rule));
        }
        full("rule 40", INDEX, x -> x.removeRule(3, 40));
        full("the empty slot's rule 0", INDEX, x -> x.removeRule(2, 0));
        S.sentence("Promise 6", FIRST);
        ordinary("slot and rule", ARGUMENT, x -> x.removeRule(4, -1));
    }

    private static void numbers() {
        for (int slot : NO_SLOTS) {
            S.sentence("Promise 7", NO_SLOT);
            ordinary("slot " + slot, ARGUMENT, x -> x.rules(slot));
            S.sentence("Promise 8", NO_SLOT);
            ordinary("slot " + slot, ARGUMENT, x -> x.finals(slot));
        }
    }

    private static void rule() {
        S.sentence("Promise 9",
                "Throws IllegalArgumentException if there is no such slot, or what is out of range");
        for (int slot : NO_SLOTS) {
            ordinary("slot " + slot, ARGUMENT, x -> x.rule(slot, 0, 0));
        }
        for (int what : new int[] {-1, 6, LEAST, MOST}) {
            ordinary("what " + what, ARGUMENT, x -> x.rule(0, 0, what));
        }
        S.sentence("Promise 9", NO_RULE);
        for (int rule : NO_RULES) {
            ordinary("rule " + rule, INDEX, x -> x.rule(0, rule, 5));
        }
        full("rule 40", INDEX, x -> x.rule(3, 40, 0));
        full("the empty slot's rule 0", INDEX, x -> x.rule(0, 0, 0));
        S.sentence("Promise 9", FIRST);
        ordinary("slot and rule", ARGUMENT, x -> x.rule(4, 0, 0));
        ordinary("what and rule", ARGUMENT, x -> x.rule(0, 3, 6));
        ordinary("what and the rule before", ARGUMENT, x -> x.rule(0, -1, -1));
    }

    private static void range() {
        S.sentence("Promise 10", NO_SLOT);
        for (int slot : NO_SLOTS) {
            ordinary("slot " + slot, ARGUMENT, x -> x.range(slot, 0, 0, true));
        }
        S.sentence("Promise 10",
                "Throws IndexOutOfBoundsException if there is no such rule or range");
        for (int rule : NO_RULES) {
            ordinary("rule " + rule, INDEX, x -> x.range(0, rule, 0, false));
        }
        for (int i : new int[] {-1, 2, LEAST, MOST}) {
            ordinary("range " + i + " of two, low", INDEX, x -> x.range(0, 1, i, false));
            ordinary("range " + i + " of two, high", INDEX, x -> x.range(0, 1, i, true));
        }
        full("range 1 of one", INDEX, x -> x.range(3, 39, 1, true));
        full("rule 40", INDEX, x -> x.range(3, 40, 0, true));
        S.sentence("Promise 10", FIRST);
        ordinary("slot and rule", ARGUMENT, x -> x.range(-1, 3, 0, true));
        ordinary("slot and range", ARGUMENT, x -> x.range(4, 0, 9, true));
    }

    private static void term() {
        S.sentence("Promise 11", NO_SLOT);
        for (int slot : NO_SLOTS) {
            ordinary("slot " + slot, ARGUMENT, x -> x.term(slot, 0, 0));
        }
        S.sentence("Promise 11",
                "Throws IndexOutOfBoundsException if there is no such rule or term");
        for (int rule : NO_RULES) {
            ordinary("rule " + rule, INDEX, x -> x.term(0, rule, 0));
        }
        for (int i : new int[] {-1, 1, LEAST, MOST}) {
            ordinary("term " + i + " of one", INDEX, x -> x.term(0, 0, i));
        }
        full("term 6 of six", INDEX, x -> x.term(3, 0, 6));
        full("term 0 of none", INDEX, x -> x.term(3, 1, 0));
        full("rule 40", INDEX, x -> x.term(3, 40, 0));
        S.sentence("Promise 11", FIRST);
        ordinary("slot and rule", ARGUMENT, x -> x.term(4, -1, 0));
        ordinary("slot and term", ARGUMENT, x -> x.term(-1, 0, 6));
    }

    private static void valueOf() {
        S.sentence("Promise 12",
                "Throws IllegalArgumentException if there is no such slot or symbol");
        for (int slot : NO_SLOTS) {
            ordinary("slot " + slot, ARGUMENT, x -> x.valueOf(slot, 0, 0, 0));
        }
        for (int symbol : NO_SYMBOLS) {
            ordinary("symbol " + symbol, ARGUMENT, x -> x.valueOf(0, 0, 0, symbol));
        }
        S.sentence("Promise 12",
                "Throws IndexOutOfBoundsException if there is no such rule or term");
        for (int rule : NO_RULES) {
            ordinary("rule " + rule, INDEX, x -> x.valueOf(0, rule, 0, 99));
        }
        for (int i : new int[] {-1, 1, LEAST, MOST}) {
            ordinary("term " + i + " of one", INDEX, x -> x.valueOf(0, 0, i, 0));
        }
        full("term 6 of six", INDEX, x -> x.valueOf(3, 0, 6, 0));
        full("term 0 of none", INDEX, x -> x.valueOf(3, 1, 0, 0));
        S.sentence("Promise 12", FIRST);
        ordinary("slot and rule", ARGUMENT, x -> x.valueOf(4, 3, 0, 0));
        ordinary("symbol and rule", ARGUMENT, x -> x.valueOf(0, 3, 0, 100));
        ordinary("symbol and term", ARGUMENT, x -> x.valueOf(0, 0, 1, -1));
    }

    private static void feedAndParse() {
        S.sentence("Promise 13",
                "Throws IllegalStateException if the buffer already holds 120 characters");
        full("one that could go on", STATE, x -> x.feed(';'));
        full("the least one", STATE, x -> x.feed((char) 0));
        full("the greatest one", STATE, x -> x.feed((char) 65535));
        S.sentence("Promise 14", "The buffer is empty afterwards, also after an error or an exception, "
                + "but not if there is no such slot.");
        for (int slot : NO_SLOTS) {
            ordinary("slot " + slot, ARGUMENT, x -> x.parse(slot));
            full("slot " + slot, ARGUMENT, x -> x.parse(slot));
        }
        S.refused("slot 4 and an empty buffer", ARGUMENT, with(""), x -> x.parse(4));
        S.refused("slot 4 and a wrong state", ARGUMENT, fed("!12"), x -> x.parse(4));
        S.refused("slot -1 and a wrong text", ARGUMENT, fed("!"), x -> x.parse(-1));
        S.sentence("Description", "A method that throws an exception or returns an error code leaves "
                + "the state unchanged, unless its description says otherwise.");
        for (String text : new String[] {"!", "0>0:0", "0>0:0/;", "!0;0>0:0/x;!0,", "!12;"}) {
            S.touches("buffer", "an error in " + text, -100 - (text.equals("!0;0>0:0/x;!0,") ? 13
                    : text.length()), fed(text), x -> x.parse(0));
        }
        for (String text : new String[] {"!12", "0>12:0/", "12>0:0/", "0>0:1-0/", "0>0:0/1,2,3,4,5,6,7"}) {
            S.touches("buffer", "a refused " + text, ARGUMENT, fed(text), x -> x.parse(0));
            S.touches("buffer", "a refused !1;!2;" + text, ARGUMENT, fed("!1;!2;" + text), x -> x.parse(3));
        }
    }

    /** An ordinary bench whose buffer holds another text. */
    private static Supplier<TransducerBench> fed(String text) {
        return () -> {
            TransducerBench bench = Views.ordinary();
            bench.parse(2);
            Check.feed(bench, text);
            return bench;
        };
    }

    private static void word() {
        S.sentence("Promise 15", "Throws IllegalArgumentException if there is no such symbol");
        for (int symbol : NO_SYMBOLS) {
            ordinary("symbol " + symbol, ARGUMENT, x -> x.push(symbol));
        }
        S.sentence("Promise 15", "Throws IllegalStateException if the word has 10 symbols");
        full("0", STATE, x -> x.push(0));
        full("99", STATE, x -> x.push(99));
        S.sentence("Promise 15", FIRST);
        full("no symbol", ARGUMENT, x -> x.push(100));
        full("no symbol below", ARGUMENT, x -> x.push(-1));
        S.sentence("Promise 17", "Throws IndexOutOfBoundsException if there is no such index");
        for (int i : new int[] {-1, 2, LEAST, MOST}) {
            ordinary("index " + i + " of two", INDEX, x -> x.symbol(i));
        }
        full("index 10 of ten", INDEX, x -> x.symbol(10));
        S.refused("index 0 of none", INDEX, with("!0"), x -> x.symbol(0));
        S.sentence("Promise 20", "Throws IndexOutOfBoundsException if there is no such index");
        for (int i : new int[] {-1, 4, LEAST, MOST}) {
            ordinary("index " + i + " of four", INDEX, x -> x.result(i));
        }
        full("index 60 of sixty", INDEX, x -> x.result(60));
        S.refused("index 0 of none", INDEX, with("!0"), x -> x.result(0));
        S.sentence("Promise 21", "Throws IllegalStateException if the result has more than 10 symbols");
        full("sixty", STATE, x -> x.useResult());
        S.refused("eleven", STATE, () -> elevenInResult(), x -> x.useResult());
    }

    private static TransducerBench elevenInResult() {
        TransducerBench bench = Check.bench("!0;0>0:1/x;0>0:2/1,2,3,4,5,6");
        Check.word(bench, 1, 1, 1, 1, 1, 2);
        bench.transduce(0, false);
        return bench;
    }

    private static void transduce() {
        for (int slot : NO_SLOTS) {
            S.sentence("Promise 18", NO_SLOT);
            ordinary("slot " + slot, ARGUMENT, x -> x.runs(slot));
            S.sentence("Promise 19", NO_SLOT);
            ordinary("slot " + slot + ", first", ARGUMENT, x -> x.transduce(slot, false));
            ordinary("slot " + slot + ", last", ARGUMENT, x -> x.transduce(slot, true));
        }
        S.sentence("Promise 19", "Throws NoSuchElementException if the word has no output");
        for (int slot : new int[] {0, 2, 3}) {
            ordinary("slot " + slot + ", first", NONE, x -> x.transduce(slot, false));
            ordinary("slot " + slot + ", last", NONE, x -> x.transduce(slot, true));
        }
        full("an empty slot", NONE, x -> x.transduce(0, true));
        // A slot that does not exist has no outputs to lack, so that the two never apply together.
    }

    private static void domains() {
        String both = "Throws IllegalArgumentException if there is no such slot, or the length is out of range";
        for (int slot : NO_SLOTS) {
            S.sentence("Promise 22", both);
            ordinary("slot " + slot, ARGUMENT, x -> x.domainCount(slot, 0));
            S.sentence("Promise 23", both);
            ordinary("slot " + slot, ARGUMENT, x -> x.domainShare(slot, 0));
            S.sentence("Promise 25", NO_SLOT);
            ordinary("slot " + slot, ARGUMENT, x -> x.outputSymbols(slot));
            S.sentence("Promise 26", NO_SLOT);
            ordinary("slot " + slot, ARGUMENT, x -> x.isDeterministic(slot));
            S.sentence("Promise 27", NO_SLOT);
            ordinary("slot " + slot, ARGUMENT, x -> x.isFunctional(slot));
        }
        for (int length : new int[] {-1, 9, LEAST, MOST}) {
            S.sentence("Promise 22", both);
            ordinary("length " + length, ARGUMENT, x -> x.domainCount(0, length));
            S.sentence("Promise 23", both);
            ordinary("length " + length, ARGUMENT, x -> x.domainShare(0, length));
        }
    }

    private static void shortestInput() {
        S.sentence("Promise 24", NO_SLOT);
        for (int slot : NO_SLOTS) {
            ordinary("slot " + slot, ARGUMENT, x -> x.shortestInput(slot));
        }
        S.sentence("Promise 24", "Throws NoSuchElementException if the domain is empty");
        ordinary("no final state", NONE, x -> x.shortestInput(3));
        full("an empty slot", NONE, x -> x.shortestInput(0));
        S.refused("no rule that is enabled", NONE, with("!1;0>1:0/x-1"), x -> x.shortestInput(0));
        S.refused("no way to the final state", NONE, with("!2;0>1:0/;1>0:1/"), x -> x.shortestInput(0));
    }

    private static void isEquivalent() {
        for (int slot : NO_SLOTS) {
            S.sentence("Promise 28", ONE_SLOT);
            ordinary("one " + slot, ARGUMENT, x -> x.isEquivalent(slot, 0));
            ordinary("other " + slot, ARGUMENT, x -> x.isEquivalent(0, slot));
            ordinary("both " + slot, ARGUMENT, x -> x.isEquivalent(slot, slot));
            S.sentence("Promise 29", ONE_SLOT);
            ordinary("one " + slot, ARGUMENT, x -> x.isWithin(slot, 0));
            ordinary("other " + slot, ARGUMENT, x -> x.isWithin(0, slot));
            ordinary("both " + slot, ARGUMENT, x -> x.isWithin(slot, slot));
        }
        S.sentence("Promise 28",
                "Throws IllegalStateException if one of the transducers is not functional");
        ordinary("one", STATE, x -> x.isEquivalent(1, 0));
        ordinary("other", STATE, x -> x.isEquivalent(0, 1));
        ordinary("both", STATE, x -> x.isEquivalent(1, 2));
        ordinary("the same", STATE, x -> x.isEquivalent(1, 1));
        ordinary("with one whose domain is empty", STATE, x -> x.isEquivalent(3, 1));
        S.sentence("Promise 28", FIRST);
        ordinary("one that is not functional, other -1", ARGUMENT, x -> x.isEquivalent(1, -1));
        ordinary("one 4, other that is not functional", ARGUMENT, x -> x.isEquivalent(4, 1));
    }

    private static void compose() {
        S.sentence("Promise 30", ONE_SLOT);
        for (int slot : NO_SLOTS) {
            ordinary("a " + slot, ARGUMENT, x -> x.compose(slot, 0, 1));
            ordinary("b " + slot, ARGUMENT, x -> x.compose(0, slot, 1));
            ordinary("target " + slot, ARGUMENT, x -> x.compose(0, 1, slot));
            ordinary("all " + slot, ARGUMENT, x -> x.compose(slot, slot, slot));
        }
        S.sentence("Promise 30", "Throws UnsupportedOperationException if it would have more than 12 "
                + "states or 40 rules, or a rule with more than 6 terms");
        for (int target = 0; target < 4; target++) {
            int asked = target;
            S.refused("13 states, into slot " + target, UNSUPPORTED, () -> manyPairs(),
                    x -> x.compose(0, 1, asked));
            S.refused("41 rules, into slot " + target, UNSUPPORTED, () -> manyRules(),
                    x -> x.compose(0, 1, asked));
            S.refused("7 terms, into slot " + target, UNSUPPORTED,
                    with("!0;0>0:1/x,x", "!0;0>0:1/x,x,x;0>0:1/x,x,x,x"), x -> x.compose(0, 1, asked));
        }
        S.sentence("Promise 30", FIRST);
        S.refused("13 states and no target", ARGUMENT, () -> manyPairs(), x -> x.compose(0, 1, 4));
        S.refused("41 rules and no target", ARGUMENT, () -> manyRules(), x -> x.compose(0, 1, -1));
        S.refused("7 terms and no target", ARGUMENT, with("!0;0>0:1/x,x", "!0;0>0:1/x,x,x,x"),
                x -> x.compose(0, 1, 4));
    }

    /** Twelve pairs by the rules for 1, and one more by the last rule. */
    private static TransducerBench manyPairs() {
        TransducerBench bench = Check.bench("", "!0;0>0:1/x;0>1:2/x");
        for (int state = 1; state < 12; state++) {
            bench.addRule(0, 0, state, state, state);
            bench.addTerm(0, state - 1, false, 1);
        }
        bench.addRule(0, 0, 11, 50, 50);
        bench.addTerm(0, 11, false, 2);
        return bench;
    }

    /** Forty rules by the first rule of slot 0, and one more by the second one. */
    private static TransducerBench manyRules() {
        TransducerBench bench = Check.bench("!0;0>0:1/x;0>0:2/", "!0");
        for (int i = 0; i < 40; i++) {
            bench.addRule(1, 0, 0, 1, 1 + i);
        }
        return bench;
    }

    private static void invert() {
        S.sentence("Promise 31", ONE_SLOT);
        for (int slot : NO_SLOTS) {
            ordinary("slot " + slot, ARGUMENT, x -> x.invert(slot, 1));
            ordinary("target " + slot, ARGUMENT, x -> x.invert(0, slot));
            ordinary("both " + slot, ARGUMENT, x -> x.invert(slot, slot));
        }
        S.sentence("Promise 31", "Throws IllegalStateException if a rule does not have exactly one term, "
                + "or its term is a constant");
        for (String rule : new String[] {"0>0:1/", "0>0:1/x,x", "0>0:1/x,1", "0>0:1/1,x", "0>0:1/5",
            "0>0:1/0", "0>0:1/99", "0>0:1/x,x,x,x,x,x", "9>9:0/x-1,x"}) {
            for (int target = 0; target < 2; target++) {
                int asked = target;
                S.refused(rule + " alone, into slot " + target, STATE, with(rule), x -> x.invert(0, asked));
                S.refused(rule + " at last, into slot " + target, STATE, with("0>1:3-5/x+2;" + rule),
                        x -> x.invert(0, asked));
            }
        }
        S.sentence("Promise 31", FIRST);
        ordinary("two terms and no target", ARGUMENT, x -> x.invert(1, 4));
    }

    private static void restrict() {
        S.sentence("Promise 32", "Throws IllegalArgumentException if there is no such slot or symbol, "
                + "or high is below low");
        for (int slot : NO_SLOTS) {
            ordinary("slot " + slot, ARGUMENT, x -> x.restrict(slot, 0, 99));
        }
        for (int symbol : NO_SYMBOLS) {
            ordinary("low " + symbol, ARGUMENT, x -> x.restrict(0, symbol, 99));
            ordinary("high " + symbol, ARGUMENT, x -> x.restrict(0, 0, symbol));
            ordinary("both " + symbol, ARGUMENT, x -> x.restrict(0, symbol, symbol));
        }
        ordinary("high below low", ARGUMENT, x -> x.restrict(0, 15, 14));
    }

    private static void trimAndCopy() {
        for (int slot : NO_SLOTS) {
            S.sentence("Promise 33", NO_SLOT);
            ordinary("slot " + slot, ARGUMENT, x -> x.trim(slot));
            S.sentence("Promise 34", ONE_SLOT);
            ordinary("slot " + slot, ARGUMENT, x -> x.copy(slot, 0));
            ordinary("target " + slot, ARGUMENT, x -> x.copy(0, slot));
            ordinary("both " + slot, ARGUMENT, x -> x.copy(slot, slot));
        }
    }

    private static void undo() {
        S.sentence("Promise 35", "Throws IllegalStateException if there is none");
        S.refused("a new object", STATE, () -> new TransducerBench(), x -> x.undo());
        S.refused("eight were taken back", STATE, () -> {
            TransducerBench bench = Views.ordinary();
            for (int i = 0; i < 8; i++) {
                bench.undo();
            }
            return bench;
        }, x -> x.undo());
        S.refused("the only one was taken back", STATE, () -> {
            TransducerBench bench = Check.bench("!0");
            bench.undo();
            return bench;
        }, x -> x.undo());
    }
}
