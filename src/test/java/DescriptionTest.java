import java.lang.reflect.Method;
import java.lang.reflect.Modifier;
import java.util.TreeSet;

/**
 * The sentences under 'Description' that all promises share: numbers, symbols and words, transducers,
 * runs, tests, the word, details. Those about refused calls are in RefusedTest, those about composition
 * in CompositionTest, those about texts in SentencesTextsTest, and the examples in
 * ExamplesTest.
 */
public final class DescriptionTest {
    private static final Sentences S = new Sentences();
    private static final Class<?> ARGUMENT = IllegalArgumentException.class;
    private static final Class<?> INDEX = IndexOutOfBoundsException.class;
    private static final Class<?> STATE = IllegalStateException.class;
    private static final Class<?> NONE = java.util.NoSuchElementException.class;

    public static void main(String[] args) {
        numbers();
        calls();
        symbols();
        words();
        slots();
        states();
        rulesOfATransducer();
        rule();
        terms();
        values();
        enabled();
        outputOfARule();
        runs();
        outputs();
        domain();
        deterministic();
        functional();
        equivalent();
        word();
        details();
        oldChanges();
        S.end();
    }

    private static void numbers() {
        S.sentence("Description",
                "All numbers are integers, apart from one method that returns a floating-point number.");
        S.due("methods with another number", "[domainShare]", () -> {
            TreeSet<String> found = new TreeSet<>();
            for (Method method : TransducerBench.class.getDeclaredMethods()) {
                if (Modifier.isPublic(method.getModifiers()) && hasFloating(method)) {
                    found.add(method.getName());
                }
            }
            return found.toString();
        });
        S.due("its number", 0.11, () -> Check.bench("!1;0>1:10-20/").domainShare(0, 1));
    }

    private static boolean hasFloating(Method method) {
        boolean isFound = method.getReturnType() == double.class || method.getReturnType() == float.class;
        for (Class<?> type : method.getParameterTypes()) {
            isFound = isFound || type == double.class || type == float.class;
        }
        return isFound;
    }

    private static void calls() {
        S.sentence("What it is", "An object is used for at most 512 calls after it has been made; what "
                + "later calls answer is free.");
        TransducerBench x = new TransducerBench();
        for (int call = 1; call <= 503; call++) {
            int number = call;
            S.due("call " + call, number % 2 == 0, () -> x.setFinal(1, 5, number % 2 == 1));
        }
        for (int call = 504; call <= 511; call++) {
            S.due("call " + call, 1, () -> x.undo());
        }
        S.due("call 512", STATE, () -> x.undo());
    }

    private static void symbols() {
        S.sentence("Symbols and words", "Symbols are the numbers 0 to 99.");
        TransducerBench x = Check.bench("!0");
        S.due("push 0", 1, () -> x.push(0));
        S.due("push 99", 2, () -> x.push(99));
        S.due("push -1", ARGUMENT, () -> x.push(-1));
        S.due("push 100", ARGUMENT, () -> x.push(100));
        S.due("a guard from 0 to 99", 0, () -> x.addRule(0, 0, 0, 0, 99));
        S.due("holds as many", 100, () -> x.rule(0, 0, 2));
        S.due("a guard of 0", 1, () -> x.addRule(0, 0, 0, 0, 0));
        S.due("a guard of 99", 2, () -> x.addRule(0, 0, 0, 99, 99));
        S.due("a guard from -1", ARGUMENT, () -> x.addRule(0, 0, 0, -1, 99));
        S.due("a guard to 100", ARGUMENT, () -> x.addRule(0, 0, 0, 0, 100));
        S.due("a range of 0", 2, () -> x.addRange(0, 2, 0, 0));
        S.due("a range of 99", 2, () -> x.addRange(0, 1, 99, 99));
        S.due("a range from -1", ARGUMENT, () -> x.addRange(0, 1, -1, 0));
        S.due("a range to 100", ARGUMENT, () -> x.addRange(0, 1, 99, 100));
        S.due("the value for 0", 5, () -> x.addTerm(0, 0, true, 5) == 1 ? x.valueOf(0, 0, 0, 0) : -1);
        S.due("the value for 99", 104, () -> x.valueOf(0, 0, 0, 99));
        S.due("the value for -1", ARGUMENT, () -> x.valueOf(0, 0, 0, -1));
        S.due("the value for 100", ARGUMENT, () -> x.valueOf(0, 0, 0, 100));
        S.due("restricted to -1", ARGUMENT, () -> x.restrict(0, -1, 50));
        S.due("restricted to 100", ARGUMENT, () -> x.restrict(0, 50, 100));
        S.due("restricted to 0", 0, () -> x.restrict(0, 0, 0));
        S.due("words of one symbol", 100L, () -> Check.bench("!0;0>0:0-99/").domainCount(0, 1));
    }

    private static void words() {
        S.sentence("Symbols and words", "A word is a sequence of symbols, possibly empty.");
        TransducerBench x = Check.bench("!0;0>0:1/");
        S.due("the runs on the empty word", 1L, () -> x.runs(0));
        S.due("its output", "0: ", () -> Check.output(x, 0, false));
        S.due("it is in the domain", 1L, () -> x.domainCount(0, 0));
        S.due("it is the shortest input", 0, () -> x.shortestInput(0));
        S.due("it is a result that becomes the word", 0, () -> x.useResult());
        S.due("it can be made empty", 0, () -> x.clearWord());
        Check.word(x, 1, 1);
        S.due("an output that is empty, of another word", "0: ", () -> Check.output(x, 0, true));
        S.sentence("Symbols and words", "Words are ordered lexicographically; a word comes before all "
                + "longer words that begin with it.");
        order("0: ", "1: 0", "0>1:1/", "0>1:1/0");
        order("1: 5", "2: 5 0", "0>1:1/5", "0>1:1/5,0");
        order("5: 5 0 0 0 0", "6: 5 0 0 0 0 0", "0>1:1/5,0,0,0,0", "0>1:1/5,0,0,0,0,0");
        order("6: 4 99 99 99 99 99", "1: 5", "0>1:1/4,99,99,99,99,99", "0>1:1/5");
        order("2: 9 9", "1: 10", "0>1:1/9,9", "0>1:1/10");
        order("2: 7 0", "2: 7 99", "0>1:1/7,0", "0>1:1/7,99");
        order("3: 7 8 0", "3: 7 8 1", "0>1:1/7,8,0", "0>1:1/7,8,x");
        order("0: ", "6: 0 0 0 0 0 0", "0>1:1/", "0>1:1/0,0,0,0,0,0");
        S.due("the shortest input is ordered so, too", "2: 3 9", () -> {
            TransducerBench y = Check.bench("!3;0>1:4/;0>2:3/;1>3:0/;2>3:9/");
            return y.shortestInput(0) + ": " + Check.showResult(y, 2);
        });
    }

    private static void order(String first, String last, String one, String other) {
        for (String text : new String[] {"!1;" + one + ";" + other, "!1;" + other + ";" + one}) {
            TransducerBench x = Check.bench(text);
            x.push(1);
            S.due("the first of " + text, first, () -> Check.output(x, 0, false));
            S.due("the last of " + text, last, () -> Check.output(x, 0, true));
        }
    }

    private static void slots() {
        S.sentence("Transducers",
                "There are 4 slots, numbered from 0, each of which holds a transducer.");
        TransducerBench x = new TransducerBench();
        for (int slot = 0; slot < 4; slot++) {
            int asked = slot;
            for (int i = 0; i <= slot; i++) {
                x.addRule(slot, i, slot, slot, slot);
            }
            S.due("setFinal of slot " + slot, false, () -> x.setFinal(asked, asked, true));
        }
        for (int slot = 0; slot < 4; slot++) {
            int asked = slot;
            S.due("rules of slot " + slot, slot + 1, () -> x.rules(asked));
            S.due("finals of slot " + slot, 1 << slot, () -> x.finals(asked));
        }
        S.due("slot 4", ARGUMENT, () -> x.rules(4));
        S.due("slot -1", ARGUMENT, () -> x.rules(-1));
    }

    private static void states() {
        S.sentence("Transducers", "A transducer has 12 states, numbered from 0; state 0 is the start; each "
                + "state is final or not, at first not.");
        TransducerBench x = new TransducerBench();
        for (int state = 0; state < 12; state++) {
            int asked = state;
            S.due("state " + state + " at first", false, () -> x.setFinal(0, asked, false));
            S.due("from and to state " + state, asked, () -> x.addRule(0, asked, asked, 0, 0));
        }
        S.due("no state is final", 0, () -> x.finals(0));
        S.due("state 12", ARGUMENT, () -> x.setFinal(0, 12, false));
        S.due("from state 12", ARGUMENT, () -> x.addRule(0, 12, 0, 0, 0));
        S.due("to state 12", ARGUMENT, () -> x.addRule(0, 0, 12, 0, 0));
        S.due("state -1", ARGUMENT, () -> x.setFinal(0, -1, true));
        for (int state = 0; state < 12; state++) {
            TransducerBench y = new TransducerBench();
            y.setFinal(1, state, true);
            S.due("runs from the start, final " + state, state == 0 ? 1L : 0L, () -> y.runs(1));
            y.addRule(1, 1, 2, 5, 5);
            y.setFinal(1, 2, true);
            y.push(5);
            S.due("runs not from state 1, final " + state, 0L, () -> y.runs(1));
        }
        S.due("through all of them", 11, () -> {
            TransducerBench y = new TransducerBench();
            for (int state = 0; state < 11; state++) {
                y.addRule(2, state, state + 1, 0, 99);
            }
            y.setFinal(2, 11, true);
            return y.shortestInput(2);
        });
    }

    private static void rulesOfATransducer() {
        S.sentence("Transducers", "It has at most 40 rules, numbered from 0, at first none.");
        TransducerBench x = new TransducerBench();
        S.due("at first", 0, () -> x.rules(3));
        S.due("no rule 0", INDEX, () -> x.rule(3, 0, 0));
        for (int i = 0; i < 40; i++) {
            int number = i;
            S.due("rule " + i, number, () -> x.addRule(3, 0, number % 12, number, 99));
        }
        S.due("rule 40", STATE, () -> x.addRule(3, 0, 0, 0, 0));
        S.due("forty", 40, () -> x.rules(3));
        S.due("rule 0 is the first", 100, () -> x.rule(3, 0, 2));
        S.due("rule 39 is the last", 61, () -> x.rule(3, 39, 2));
        S.due("rule 40 is none", INDEX, () -> x.rule(3, 40, 2));
        S.due("each slot has as many", 40, () -> x.copy(3, 0));
    }

    private static void rule() {
        S.sentence("Transducers", "A rule leads from a state to a state; it has a guard, a non-empty set "
                + "of symbols, and a list of at most 6 terms.");
        TransducerBench x = new TransducerBench();
        S.due("from a state to another", 0, () -> x.addRule(0, 11, 0, 99, 99));
        S.due("from", 11, () -> x.rule(0, 0, 0));
        S.due("to", 0, () -> x.rule(0, 0, 1));
        S.due("from a state to itself", 1, () -> x.addRule(0, 4, 4, 5, 5));
        S.due("a guard of one symbol", 1, () -> x.rule(0, 1, 2));
        S.due("an empty guard", ARGUMENT, () -> x.addRule(0, 0, 0, 5, 4));
        S.due("restricting to what is not in a guard", 1, () -> x.restrict(0, 0, 98));
        S.due("leaves no rule with an empty one", 1, () -> x.rules(0));
        for (int k = 1; k <= 6; k++) {
            int count = k;
            S.due("term " + k, count, () -> x.addTerm(0, 0, false, 60 - count));
        }
        S.due("term 7", STATE, () -> x.addTerm(0, 0, false, 0));
        S.due("a list has an order", "0;4>4:5-5/59,58,57,56,55,54", () -> Check.show(x, 0));
        S.due("a list may hold the same twice", "2: 3 3", () -> {
            TransducerBench y = Check.bench("!1;0>1:3/x,x");
            y.push(3);
            return Check.output(y, 0, false);
        });
    }

    private static void terms() {
        S.sentence("Transducers",
                "A term is a constant, from 0 to 99, or an offset, from -99 to 99.");
        TransducerBench x = Check.bench("0>0:0-99/");
        S.due("constant -1", ARGUMENT, () -> x.addTerm(0, 0, false, -1));
        S.due("constant 0", 1, () -> x.addTerm(0, 0, false, 0));
        S.due("constant 99", 2, () -> x.addTerm(0, 0, false, 99));
        S.due("constant 100", ARGUMENT, () -> x.addTerm(0, 0, false, 100));
        S.due("offset -100", ARGUMENT, () -> x.addTerm(0, 0, true, -100));
        S.due("offset -99", 3, () -> x.addTerm(0, 0, true, -99));
        S.due("offset -1", 4, () -> x.addTerm(0, 0, true, -1));
        S.due("offset 99", 5, () -> x.addTerm(0, 0, true, 99));
        S.due("offset 100", ARGUMENT, () -> x.addTerm(0, 0, true, 100));
        S.due("all of them", "0;0>0:0-99/0,99,901,999,1099", () -> Check.show(x, 0));
    }

    private static void values() {
        S.sentence("Transducers",
                "The value of a term for a symbol is the constant, or the symbol plus the offset.");
        TransducerBench x = Check.bench("0>0:0-99/0,99,x-99,x,x+99");
        int[][] want = {{0, 99, -99, 0, 99}, {0, 99, -49, 50, 149}, {0, 99, 0, 99, 198}};
        for (int k = 0; k < 5; k++) {
            int term = k;
            S.due("term " + k + " for 0", want[0][k], () -> x.valueOf(0, 0, term, 0));
            S.due("term " + k + " for 50", want[1][k], () -> x.valueOf(0, 0, term, 50));
            S.due("term " + k + " for 99", want[2][k], () -> x.valueOf(0, 0, term, 99));
        }
    }

    /** How many symbols a rule is enabled for, and how many words of one symbol it takes. */
    private static void enabled(int want, String rule) {
        TransducerBench x = Check.bench("!1;" + rule);
        S.due(rule, want, () -> x.rule(0, 0, 3));
        S.due("words by " + rule, (long) want, () -> x.domainCount(0, 1));
        long runs = 0;
        for (int symbol = 0; symbol < 100; symbol++) {
            Check.word(x, symbol);
            runs += x.runs(0);
        }
        long sum = runs;
        S.due("runs by " + rule, (long) want, () -> sum);
    }

    private static void enabled() {
        S.sentence("Transducers", "A rule is enabled for a symbol if the symbol is in its guard and the "
                + "values of all its terms for the symbol are from 0 to 99.");
        enabled(100, "0>1:0-99/");
        enabled(100, "0>1:0-99/0,99,x");
        enabled(1, "0>1:7/");
        enabled(99, "0>1:0-99/x+1");
        enabled(99, "0>1:0-99/x-1");
        enabled(98, "0>1:0-99/x+1,x-1");
        enabled(98, "0>1:0-99/5,x-1,x,x+1");
        enabled(1, "0>1:0-99/x+99");
        enabled(1, "0>1:0-99/x-99");
        enabled(0, "0>1:1-99/x+99");
        enabled(0, "0>1:0-98/x-99");
        enabled(0, "0>1:0-99/x+50,x-50");
        enabled(1, "0>1:0-99/x+50,x-49");
        enabled(2, "0>1:0-99/x+49,x-49");
        enabled(2, "0>1:0,98-99/x+1,x");
        enabled(2, "0>1:0,1,98,99/x-1,x+1,x,x");
        enabled(36, "0>1:0-99/x+64");
        enabled(37, "0>1:0-99/x-63");
    }

    private static void outputOfARule() {
        S.sentence("Transducers", "The output of an enabled rule for a symbol is the word of the values of "
                + "its terms.");
        TransducerBench x = Check.bench(
                "!1;0>1:40/x-40,x+59,x,0,99,x-1", "!1;0>1:40/", "!1;0>1:40/5", "!1;0>1:39-41/x,x");
        x.push(40);
        S.due("six terms", "6: 0 99 40 0 99 39", () -> Check.output(x, 0, false));
        S.due("no terms", "0: ", () -> Check.output(x, 1, false));
        S.due("a constant", "1: 5", () -> Check.output(x, 2, false));
        S.due("the symbol twice", "2: 40 40", () -> Check.output(x, 3, false));
    }

    private static void runs() {
        S.sentence("Runs", "A run of a transducer on a word begins in state 0 and applies for each symbol "
                + "of the word one rule that leads from the present state and is enabled for the symbol.");
        TransducerBench x = Check.bench("!2;!0;0>1:1/x;1>2:2/x;2>0:3/x;1>1:2/x-3;2>2:4/x");
        S.due("no symbol, no rule", 1L, () -> x.runs(0));
        Check.word(x, 1, 2);
        S.due("two rules", 1L, () -> x.runs(0));
        Check.word(x, 1, 2, 4, 4, 3, 1, 2, 4, 3, 1);
        S.due("ten rules, the last to a state that is not final", 0L, () -> x.runs(0));
        Check.word(x, 1, 2, 4, 4, 3, 1, 2, 4, 4, 3);
        S.due("ten rules", 1L, () -> x.runs(0));
        Check.word(x, 2);
        S.due("a rule that leads from another state", 0L, () -> x.runs(0));
        Check.word(x, 1, 1);
        S.due("no rule for the second symbol", 0L, () -> x.runs(0));
        Check.word(x, 1, 2, 2);
        S.due("a rule that is not enabled", 0L, () -> x.runs(0));
        S.sentence("Runs", "It is accepting if it ends in a final state.");
        TransducerBench y = Check.bench("!1;0>1:1/;1>2:1/;2>3:1/");
        long[] want = {0, 1, 0, 0, 0};
        for (int length = 0; length < 5; length++) {
            S.due("after " + length, want[length], () -> y.runs(0));
            y.push(1);
        }
        S.sentence("Runs", "Its output is the concatenation of the outputs of its rules.");
        TransducerBench z = Check.bench("!2;0>1:1-9/x,7;1>1:1-9/;1>2:1-9/5,x,x+90");
        Check.word(z, 3, 4, 9);
        S.due("two, none and three", "5: 3 7 5 9 99", () -> Check.output(z, 0, false));
        Check.word(z, 9, 1);
        S.due("two and three", "5: 9 7 5 1 91", () -> Check.output(z, 0, true));
    }

    private static void outputs() {
        S.sentence("Runs", "The outputs of a transducer for a word are the outputs of all accepting runs "
                + "on it.");
        TransducerBench x = Check.bench("!2;0>1:1/0;0>2:1/5;0>2:1/3;0>2:1/4;0>3:1/9;2>1:1/;3>2:2/");
        Check.word(x, 1);
        S.due("the first, with lower ones of other runs", "1: 3", () -> Check.output(x, 0, false));
        S.due("the last, with higher ones of other runs", "1: 5", () -> Check.output(x, 0, true));
        Check.word(x, 1, 2);
        S.due("the only one", "1: 9", () -> Check.output(x, 0, false));
        Check.word(x, 1, 1);
        S.due("none", NONE, () -> Check.output(x, 0, false));
    }

    private static void domain() {
        S.sentence("Runs", "The domain is the set of all words that have an output.");
        TransducerBench x = Check.bench("!1;!2;0>1:1/;0>1:2/5;0>1:2/6;0>2:3/x-4;0>3:4/;0>1:5/x+95");
        S.due("1 and 2: an empty output is one, two are as good", 2L, () -> x.domainCount(0, 1));
        for (int symbol = 0; symbol < 7; symbol++) {
            int asked = symbol;
            Check.word(x, symbol);
            S.due("whether " + symbol + " has one", symbol == 1 || symbol == 2,
                    () -> Check.outcome(() -> x.transduce(0, asked == 2)) != NONE);
        }
        S.due("no final state, no domain", 0L, () -> Check.bench("0>0:0-99/").domainCount(0, 3));
    }

    private static void deterministic() {
        S.sentence("Tests", "A transducer is deterministic if no two rules that lead from the same state "
                + "are enabled for the same symbol.");
        deterministic(true, "");
        deterministic(true, "0>0:0-99/x");
        deterministic(true, "0>0:0-49/;0>0:50-99/");
        deterministic(false, "0>0:0-50/;0>1:50-99/");
        deterministic(false, "0>0:0,99/;0>1:1-98/;0>2:99/");
        deterministic(true, "0>0:7/;1>0:7/;2>0:7/");
        deterministic(false, "0>0:7/;0>0:7/");
        deterministic(true, "0>0:0/x-1;0>0:0/");
        deterministic(true, "0>0:99/;0>0:99/x+1");
        deterministic(false, "0>0:98/;0>0:98-99/x+1");
        deterministic(true, "0>0:0-99/x+99;0>0:0-99/x-99");
        deterministic(true, "0>0:0-99/x+50;0>0:0-99/x-50");
        deterministic(false, "0>0:0-99/x+50;0>0:0-99/x-49");
        deterministic(false, "11>0:63/;5>0:63/;11>1:63-64/");
    }

    private static void deterministic(boolean want, String text) {
        S.due(text, want, () -> Check.bench(text).isDeterministic(0));
    }

    private static void functional() {
        S.sentence("Tests", "It is functional if no word has two different outputs.");
        functional(true, "");
        functional(true, "!0;!1;0>1:1/5;0>1:2/6");
        functional(true, "!1;0>1:1/5;0>1:1/5;0>1:1/x+4");
        functional(false, "!1;0>1:1/5;0>1:1/6");
        functional(false, "!1;0>1:1/5;0>1:1/");
        functional(false, "!1;0>1:1/5;0>1:1/5,5");
        functional(true, "!1;0>1:1/5;0>2:1/6");
        functional(true, "!1;0>1:1/5;0>1:1/x-2");
        functional(true, "!3;0>1:1/5,6;0>2:1/;1>3:2/7;2>3:2/5,6,7");
        functional(false, "!3;0>1:1/5,6;0>2:1/;1>3:2/7;2>3:2/5,6");
        functional(false, "!3;0>1:1/5,6;0>2:1/;1>3:2/7;2>3:2/5,6,8");
        functional(true, "!3;0>1:1/5,6;0>2:1/;1>3:2/7;2>3:3/5,6,8");
    }

    private static void functional(boolean want, String text) {
        S.due(text, want, () -> Check.bench(text).isFunctional(0));
    }

    private static void equivalent() {
        S.sentence("Tests", "Two functional transducers are equivalent if they have the same domain and "
                + "the same output for each word of it.");
        equivalent(true, "", "!5");
        equivalent(false, "", "!0");
        equivalent(true, "!0", "!0;!1;0>2:1/");
        equivalent(true, "!1;0>1:0-99/x", "!5;0>5:0-99/x");
        equivalent(false, "!1;0>1:0-99/x", "!1;0>1:0-98/x");
        equivalent(false, "!1;0>1:0-99/x", "!1;0>1:1-99/x");
        equivalent(false, "!1;0>1:0-99/x", "!1;!0;0>1:0-99/x");
        equivalent(false, "!1;0>1:0-99/x", "!1;0>1:0-99/x,x");
        equivalent(false, "!1;0>1:0-99/x", "!1;0>1:0-98/x;0>1:99/98");
        equivalent(true, "!1;0>1:0-99/x", "!1;0>1:0-98/x;0>1:99/99");
        equivalent(true, "!1;0>1:98-99/x+1", "!1;0>1:98/99");
    }

    private static void equivalent(boolean want, String one, String other) {
        S.due(one + " and " + other, want, () -> Check.bench(one, other).isEquivalent(0, 1));
        S.due(other + " and " + one, want, () -> Check.bench(other, one).isEquivalent(0, 1));
    }

    private static void word() {
        S.sentence("The word", "There is one word of at most 10 symbols, empty at first, to which the "
                + "transducers are applied, and the latest result, a word that is empty at first.");
        TransducerBench x = new TransducerBench();
        S.due("the word at first", INDEX, () -> x.symbol(0));
        S.due("the result at first", INDEX, () -> x.result(0));
        S.due("the length of the result at first", 0, () -> x.useResult());
        S.due("the length of the word at first", 0, () -> x.clearWord());
        Check.read(x, 0, "!0;0>0:0-99/x,x");
        Check.read(x, 3, "!0;0>0:0-99/7");
        for (int length = 1; length <= 10; length++) {
            int want = length;
            S.due("push " + length, want, () -> x.push(want * 9));
        }
        S.due("push 11", STATE, () -> x.push(0));
        S.due("slot 0 is applied to it", 20, () -> x.transduce(0, false));
        S.due("the result is latest", 90, () -> x.result(19));
        S.due("slot 3 is applied to the same", 10, () -> x.transduce(3, false));
        S.due("the result is another then", 7, () -> x.result(9));
        S.due("and no longer", INDEX, () -> x.result(10));
    }

    private static void details() {
        S.sentence("Details", "Alike rules make different runs.");
        TransducerBench x = Check.bench("!1;0>1:1/x;0>1:1/x;0>1:1/x");
        x.push(1);
        S.due("three of them", 3L, () -> x.runs(0));
        Check.read(x, 1, "!0;0>0:1/;0>0:1/");
        Check.word(x, 1, 1, 1, 1, 1, 1, 1, 1, 1, 1);
        S.due("two of them for ten symbols", 1024L, () -> x.runs(1));
        S.sentence("Details", "Rules of states that are not reached count for being deterministic.");
        S.due("two rules from state 11", false,
                () -> Check.bench("!0;0>0:1/;11>1:2/;11>2:2/").isDeterministic(0));
        S.due("but not for being functional", true,
                () -> Check.bench("!0;!1;0>0:1/;11>1:2/5;11>1:2/6").isFunctional(0));
        S.sentence("Details", "In composing, pairs are found whether they belong to an accepting run or "
                + "not, and the number of terms matters only for rules whose guard is not empty.");
        S.due("a pair that leads nowhere is state 1", "2 100;0>1:1-1/;0>2:2-2/", () -> {
            TransducerBench y = Check.bench("!2;0>1:1/;0>2:2/", "!0");
            return y.compose(0, 1, 2) + " " + Check.show(y, 2);
        });
        S.due("seven terms of a guard that is empty", "1 1;0>0:1-1/1,1,1,1", () -> {
            TransducerBench y = Check.bench("!0;0>0:1/x;0>0:2/x,3,x", "!0;0>0:1-2/1,1,1,1");
            return y.compose(0, 1, 2) + " " + Check.show(y, 2);
        });
        S.due("seven terms of a guard that is not", UnsupportedOperationException.class,
                () -> Check.bench("!0;0>0:1/x;0>0:2/x,1,x", "!0;0>0:1-2/1,1,1,1").compose(0, 1, 2));
        S.sentence("Details", "Inverting asks all rules, also those that are enabled for no symbol, for "
                + "exactly one term, an offset.");
        S.due("enabled for no symbol, two offsets", STATE,
                () -> Check.bench("0>0:1/x;0>0:0/x-1,x").invert(0, 1));
        S.due("enabled for no symbol, an offset and a constant", STATE,
                () -> Check.bench("0>0:1/x;0>0:0/x-1,5").invert(0, 1));
        S.due("enabled for no symbol, one offset", 1, () -> Check.bench("0>0:1/x;0>0:0/x-1").invert(0, 1));
        // A rule without terms, and one with a constant alone, is enabled for its whole guard.
        S.due("no terms", STATE, () -> Check.bench("0>0:1/x;9>9:0/").invert(0, 1));
        S.due("a constant", STATE, () -> Check.bench("0>0:1/x;9>9:0/0").invert(0, 1));
    }

    private static void oldChanges() {
        S.sentence("Details", "A call that succeeds is a change also if nothing is different, as adding a "
                + "range that is there already, or trimming that removes nothing.");
        TransducerBench x = Check.bench("!1;0>1:1-5/", "!0");
        S.due("a range that is there", 5, () -> x.addRange(0, 0, 2, 3));
        S.due("is a change", 0, () -> x.undo());
        S.due("trimming that removes nothing", 0, () -> x.trim(0));
        S.due("is a change", 0, () -> x.undo());
        S.due("the change before is another one", 1, () -> x.undo());
        S.sentence("Details", "Older changes than the latest 8 are gone for good.");
        TransducerBench y = new TransducerBench();
        for (int state = 0; state < 9; state++) {
            y.setFinal(0, state, true);
        }
        for (int i = 0; i < 8; i++) {
            S.due("change " + (9 - i), 0, () -> y.undo());
        }
        S.due("the first change", STATE, () -> y.undo());
        S.due("which stays", 1, () -> y.finals(0));
        y.setFinal(1, 0, true);
        S.due("a new change", 1, () -> y.undo());
        S.due("brings none of the old ones back", STATE, () -> y.undo());
    }
}
