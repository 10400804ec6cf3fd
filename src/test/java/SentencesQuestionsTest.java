/** Promises 26 to 29, sentence by sentence; what these calls refuse is in RefusedTest. */
public final class SentencesQuestionsTest {
    private static final Sentences S = new Sentences();
    private static final Class<?> STATE = IllegalStateException.class;

    public static void main(String[] args) {
        isDeterministic();
        fortyDeterministic();
        isFunctional();
        longWords();
        farAhead();
        fullTransducers();
        isEquivalent();
        differentDomains();
        possiblyTheSame();
        notFunctional();
        isWithin();
        longCounterexample();
        allSets();
        S.end();
    }

    private static void deterministic(boolean want, String text) {
        S.due(text, want, () -> Check.bench(text).isDeterministic(0));
    }

    private static void isDeterministic() {
        S.sentence("Promise 26", "Returns whether a transducer is deterministic.");
        deterministic(true, "");
        deterministic(true, "!0;!1");
        deterministic(true, "0>0:0-99/");
        deterministic(false, "0>0:0-99/;0>0:0/");
        deterministic(false, "0>0:0-99/;0>0:99/");
        deterministic(false, "0>0:0-99/x;0>0:63/x");
        deterministic(false, "0>0:0-99/x;0>0:64/x");
        deterministic(true, "0>0:0-63/;0>0:64-99/");
        deterministic(false, "0>0:0-64/;0>0:64-99/");
        deterministic(false, "0>0:0-63/;0>0:63-99/");
        deterministic(true, "0>0:0,2,4/;0>1:1,3,5/");
        deterministic(false, "0>0:0,2,4/;0>1:1,3,4/");
        deterministic(true, "0>1:5/;1>0:5/;2>0:5/;3>0:5/");
        deterministic(false, "0>1:5/;1>0:5/;2>0:5/;1>1:5/");
        deterministic(true, "0>1:0-99/x+1;0>2:99/");
        deterministic(false, "0>1:0-99/x+1;0>2:98-99/");
        deterministic(true, "0>1:0-99/x-1;0>2:0/");
        deterministic(false, "0>1:0-99/x-1;0>2:0-1/");
        deterministic(true, "0>1:5/x-6;0>2:5/x-6");
        deterministic(true, "0>1:0-99/x-50;0>2:0-99/x+50");
        deterministic(false, "0>1:0-99/x-50;0>2:0-99/x+49");
        deterministic(true, "0>1:0-99/x-10,x+80;0>2:0-9,20-99/");
        deterministic(false, "0>1:0-99/x-10,x+80;0>2:0-9,19-99/");
    }

    private static void fortyDeterministic() {
        S.sentence("Promise 26", "Returns whether it is.");
        TransducerBench x = new TransducerBench();
        for (int i = 0; i < 40; i++) {
            x.addRule(0, i % 12, 11 - i % 12, i, i);
        }
        S.due("forty rules", true, () -> x.isDeterministic(0));
        x.addRange(0, 39, 27, 27);
        S.due("the last one and rule 27", false, () -> x.isDeterministic(0));
        x.undo();
        x.addRange(0, 0, 36, 36);
        S.due("the first one and rule 36", false, () -> x.isDeterministic(0));
        x.undo();
        x.addRange(0, 0, 37, 37);
        S.due("the first one and rule 37, from another state", true, () -> x.isDeterministic(0));
        S.due("an empty slot", true, () -> x.isDeterministic(3));
    }

    private static void functional(boolean want, String text) {
        S.due(text, want, () -> Check.bench(text).isFunctional(0));
    }

    private static void isFunctional() {
        S.sentence("Promise 27", "Returns whether a transducer is functional.");
        functional(true, "");
        functional(true, "!0");
        functional(true, "!0;0>0:0-99/x");
        functional(true, "0>0:1/5;0>0:1/6");
        functional(true, "!0;0>1:1/5;0>1:1/6");
        functional(true, "!1;0>1:1/5;0>1:2/6");
        functional(false, "!1;0>1:1-2/5;0>1:2-3/6");
        functional(true, "!1;0>1:1-2/5;0>1:2-3/5");
        functional(false, "!1;0>1:0-99/x;0>1:0-99/7");
        functional(true, "!1;0>1:0-99/x;0>1:7/7");
        functional(false, "!1;0>1:0-99/x;0>1:99/98");
        functional(true, "!1;0>1:0-99/x;0>1:99/x+1");
        functional(false, "!1;0>1:1/0;0>1:1/");
        functional(true, "!1;0>1:1/;0>1:1/");
        functional(false, "!1;0>1:1/1,2,3,4,5,6;0>1:1/1,2,3,4,5,7");
        functional(false, "!1;0>1:1/1,2,3,4,5,6;0>1:1/1,2,3,4,5");
        functional(true, "!1;0>1:1/1,2,3,4,5,6;0>1:1/x,2,x+2,4,5,x+5");
        functional(true, "!1;5>1:1/0;5>1:1/1");
        functional(true, "!2;0>1:1/1;0>1:1/2;0>2:1/");
        functional(false, "!2;0>1:1/1;0>1:1/2;1>2:1/");
        functional(true, "!2;0>1:1/;0>3:1/1,2,3,4,5,6;1>2:2/1,2,3,4,5,6;3>2:2/");
        functional(false, "!2;0>1:1/;0>3:1/1,2,3,4,5,6;1>2:2/1,2,3,4,5;3>2:2/");
        functional(false, "!2;0>1:1/;0>3:1/1,2,3,4,5,6;1>2:2/1,2,3,4,5,5;3>2:2/");
        functional(false, "!2;!3;!1;0>1:1/;0>3:1/1,2,3,4,5,6;1>2:2/1,2,3,4,5,6;3>2:2/");
        functional(true, "!2;!3;0>1:1/;0>3:1/1,2,3,4,5,6;1>2:2/1,2,3,4,5,6;3>2:2/");
        functional(false, "!1;2>1:0/;0>2:0/;1>0:0/0;2>0:0/");
        functional(true, "!1;2>1:0/;0>2:0/;1>0:0/;2>0:0/");
        functional(false, "!3;0>3:0/;2>0:0/0;2>2:0/;4>2:0/0,0;3>2:0/");
        functional(false, "!2;2>1:0/;0>2:0/1,1;1>2:0/0,0;3>4:0/0,0;1>3:0/1;4>0:0/1");
        functional(false, "!0;!1;0>0:1/1;0>1:1/1;1>1:1/1;0>1:2/2;1>1:2/2;0>0:2/3");
        functional(true, "!0;!1;0>0:1/1;0>1:1/1;1>1:1/1;0>1:2/2;1>1:2/2;0>0:2/x");
    }

    /** A cycle of 10 states and one of 1: both accept words of 10, of 20 and so on symbols. */
    private static void longWords() {
        S.sentence("Promise 27", "Returns whether it is.");
        TransducerBench x = new TransducerBench();
        x.addRule(0, 0, 1, 5, 5);
        for (int state = 1; state < 11; state++) {
            x.addRule(0, state, state % 10 + 1, 5, 5);
        }
        x.addRule(0, 0, 11, 5, 5);
        x.addRule(0, 11, 11, 5, 5);
        x.setFinal(0, 10, true);
        S.due("one end", true, () -> x.isFunctional(0));
        x.setFinal(0, 11, true);
        S.due("both ends, nothing is put out", true, () -> x.isFunctional(0));
        x.addTerm(0, 10, false, 3);
        S.due("a word of twenty symbols has two outputs", false, () -> x.isFunctional(0));
        x.addTerm(0, 12, false, 3);
        S.due("a word of ten has too, as the second way puts out nine", false, () -> x.isFunctional(0));
        x.setFinal(0, 10, false);
        S.due("the second way alone", true, () -> x.isFunctional(0));
    }

    /**
     * Two ways from the start. The first one counts the low digit of a number up by 1, with a carry by
     * 2, and down by 3, with a borrow by 4; the second one counts the carries, and stands still
     * otherwise. So a pair of states is a number, and the first way is as many blocks of six ahead: it
     * puts a block out when it counts up, the second way when it counts down. They end at number 0.
     */
    private static TransducerBench counters(int lastBlock, int constant) {
        TransducerBench x = Check.bench("!1;!7;0>1:0/;0>7:0/;6>1:2/7,7,7,7,7,7;1>6:4/");
        for (int digit = 0; digit < 5; digit++) {
            block(x, x.addRule(0, 1 + digit, 2 + digit, 1, 1), 6, 7);
            x.addRule(0, 2 + digit, 1 + digit, 3, 3);
            x.addRule(0, 7 + digit, 7 + digit, 1, 1);
            block(x, x.addRule(0, 7 + digit, 7 + digit, 3, 3), digit < 4 ? 6 : lastBlock, constant);
        }
        for (int digit = 0; digit < 4; digit++) {
            x.addRule(0, 7 + digit, 8 + digit, 2, 2);
            block(x, x.addRule(0, 8 + digit, 7 + digit, 4, 4), 6, 7);
        }
        return x;
    }

    /** The constant is the last one of the block. */
    private static void block(TransducerBench x, int rule, int length, int constant) {
        for (int i = 1; i <= length; i++) {
            x.addTerm(0, rule, false, i < length ? 7 : constant);
        }
    }

    private static void farAhead() {
        S.sentence("Promise 27", "Returns whether it is.");
        S.due("29 blocks ahead and back", true, () -> counters(6, 7).isFunctional(0));
        S.due("with itself", true, () -> counters(6, 7).isEquivalent(0, 0));
        S.due("another last symbol", false, () -> counters(6, 8).isFunctional(0));
        S.due("a symbol less in the farthest block", false, () -> counters(5, 7).isFunctional(0));
        S.due("no farthest block", false, () -> counters(0, 7).isFunctional(0));
        S.due("another symbol ahead", false, () -> {
            TransducerBench x = counters(6, 7);
            x.removeRule(0, 2);
            int rule = x.addRule(0, 6, 1, 2, 2);
            block(x, rule, 6, 8);
            return x.isFunctional(0);
        });
        S.due("one way alone", true, () -> {
            TransducerBench x = counters(5, 8);
            x.removeRule(0, 0);
            return x.isFunctional(0);
        });
        S.due("one way that does not accept", true, () -> {
            TransducerBench x = counters(5, 8);
            x.setFinal(0, 1, false);
            return x.isFunctional(0);
        });
        TransducerBench y = counters(5, 7);
        S.due("asked twice", false, () -> y.isFunctional(0) || y.isFunctional(0));
        y.copy(1, 0);
        S.due("another one in the same object then", true, () -> y.isFunctional(0));
    }

    private static void fullTransducers() {
        S.sentence("Promise 27", "Returns whether it is.");
        TransducerBench x = new TransducerBench();
        for (int i = 0; i < 39; i++) {
            x.addRule(0, i % 12, (i * 5 + 1) % 12, 0, 99);
            x.addTerm(0, i, true, 0);
        }
        for (int state = 0; state < 12; state++) {
            x.setFinal(0, state, true);
        }
        x.addRule(0, 7, 0, 99, 99);
        x.addTerm(0, 39, false, 99);
        S.due("forty rules that put out what they read", true, () -> x.isFunctional(0));
        x.addRange(0, 39, 98, 98);
        S.due("but the last one for one symbol", false, () -> x.isFunctional(0));
        x.undo();
        x.addTerm(0, 39, false, 99);
        S.due("but the last one twice", false, () -> x.isFunctional(0));
    }

    private static void equivalent(boolean want, String one, String other) {
        S.due(one + " and " + other, want, () -> Check.bench(one, other).isEquivalent(0, 1));
        S.due(other + " and " + one, want, () -> Check.bench(other, one).isEquivalent(0, 1));
    }

    private static void isEquivalent() {
        S.sentence("Promise 28", "Returns whether two transducers are equivalent.");
        equivalent(true, "", "");
        equivalent(true, "", "0>0:0-99/x");
        equivalent(true, "!0", "!0");
        equivalent(true, "!0;0>0:0-99/x", "!0;!1;0>1:0-99/x;1>0:0-99/x");
        equivalent(true, "!0;0>0:0-99/x", "!0;0>0:0-49/x;0>0:50-99/x;0>0:30-70/x");
        equivalent(false, "!0;0>0:0-99/x", "!0;0>0:0-49/x;0>0:50-98/x;0>0:99/98");
        equivalent(false, "!0;0>0:0-99/x", "!0;0>0:0-99/x,x");
        equivalent(false, "!0;0>0:0-99/x", "!0;0>0:0-99/");
        equivalent(true, "!0;0>0:0-99/", "!0;0>0:0-99/;0>0:5/");
        equivalent(true, "!2;0>1:1/1,2,3;1>2:1/4", "!2;0>1:1/1;1>2:1/2,3,4");
        equivalent(false, "!2;!1;0>1:1/1,2,3;1>2:1/4", "!2;!1;0>1:1/1;1>2:1/2,3,4");
        equivalent(true, "!1;0>1:1-9/x-1", "!1;0>1:0-9/x-1");
        equivalent(true, "!1;0>0:1/7;0>1:2/7", "!1;0>0:1/x+6;0>1:2/x+5");
        equivalent(false, "!1;0>0:1/7;0>1:2/7", "!1;0>0:1/x+6;0>1:2/x+6");
        equivalent(true, "!1;0>0:1/7;0>1:2/7", "!2;0>2:2/7;0>1:1/;1>1:1/7;1>2:2/7,7");
        equivalent(false, "!1;0>0:1/7;0>1:2/7", "!2;0>2:2/7;0>1:1/;1>1:1/7;1>2:2/7,8");
    }

    private static void differentDomains() {
        S.sentence("Promise 28", "Returns whether they are.");
        equivalent(false, "", "!0");
        equivalent(false, "!0", "!0;!1;0>1:0/");
        equivalent(false, "!1;0>1:0-99/x", "!1;0>1:0-98/x");
        equivalent(false, "!1;0>1:0-99/x", "!1;0>1:0-62,64-99/x");
        equivalent(false, "!1;0>1:0-99/x", "!0;!1;0>1:0-99/x");
        equivalent(false, "!0;0>0:1/", "!0;!1;0>1:1/");
        equivalent(false, "!1;0>1:1/5", "!1;0>1:2/5");
        equivalent(false, "!1;0>1:98-99/x+1", "!1;0>1:99/x;0>1:98/x+1");
        equivalent(false, "!0;0>0:0-99/x", "!1;0>1:0-99/x;1>1:0-99/x");
    }

    private static void possiblyTheSame() {
        S.sentence("Promise 28", "`other`: a slot, possibly the same");
        for (String text : new String[] {"", "!0", "!1;0>1:0-99/x,5", "0>0:1/"}) {
            S.due(text + " and itself", true, () -> Check.bench(text).isEquivalent(0, 0));
            S.due(text + " and its copy", true, () -> {
                TransducerBench x = Check.bench(text);
                x.copy(0, 3);
                return x.isEquivalent(3, 0);
            });
        }
        S.due("not functional, and itself", STATE,
                () -> Check.bench("!1;0>1:1/;0>1:1/1").isEquivalent(0, 0));
    }

    private static void notFunctional(String one, String other) {
        S.due(one + " and " + other, STATE, () -> Check.bench(one, other).isEquivalent(0, 1));
        S.due(other + " and " + one, STATE, () -> Check.bench(other, one).isEquivalent(0, 1));
    }

    private static void notFunctional() {
        S.sentence("Promise 28",
                "Throws IllegalStateException if one of the transducers is not functional");
        notFunctional("!1;0>1:1/;0>1:1/1", "");
        notFunctional("!1;0>1:1/;0>1:1/1", "!1;0>1:1/");
        notFunctional("!1;0>1:1/;0>1:1/1", "!1;0>1:1/;0>1:1/1");
        notFunctional("!1;0>1:1/;0>1:1/1", "!1;0>1:2/7");
        notFunctional("!1;0>1:0-99/x;0>1:0-99/x,x", "!1;0>1:0-98/x");
        S.due("only where the other has no word either", STATE,
                () -> Check.bench("!1;0>1:1/;0>1:2/5;0>1:2/6", "!1;0>1:1/").isEquivalent(0, 1));
        equivalent(false, "!1;0>1:1/5", "!1;0>1:1/6;0>2:1/5;0>2:1/7");
    }

    private static void within(boolean want, String one, String other) {
        S.due(one + " in " + other, want, () -> Check.bench(one, other).isWithin(0, 1));
    }

    private static void isWithin() {
        S.sentence("Promise 29", "Returns whether the domain of one is contained in the domain of other.");
        within(true, "", "");
        within(true, "", "!0;0>0:0-99/");
        within(false, "!0", "");
        within(true, "!0", "!0");
        within(false, "!0", "!1;0>1:0-99/;1>1:0-99/");
        within(true, "!1;0>1:5/", "!1;0>1:5-6/");
        within(false, "!1;0>1:5-6/", "!1;0>1:5/");
        within(false, "!1;0>1:0-99/", "!1;0>1:0-98/");
        within(false, "!1;0>1:0-99/", "!1;0>1:1-99/");
        within(true, "!1;0>1:0-99/", "!1;!2;0>1:0-50/;0>2:50-99/");
        within(false, "!1;0>1:0-99/", "!1;!2;0>1:0-63/;0>2:65-99/");
        within(true, "!1;0>1:0-99/x+1", "!1;0>1:0-98/");
        within(false, "!1;0>1:0-98/", "!1;0>1:0-99/x+2");
        within(true, "!1;0>1:5/1;0>1:5/2", "!1;0>1:5/3");
        within(true, "!0;0>1:1/;1>0:1/", "!0;0>0:1/");
        within(false, "!0;0>0:1/", "!0;0>1:1/;1>0:1/");
        within(true, "!0;0>0:1-2/", "!0;!1;0>0:1/;0>1:2/;1>1:1-2/");
        within(false, "!0;0>0:1-2/", "!0;!1;0>0:1/;0>1:2/;1>1:2/");
        within(true, "!2;0>1:1/;1>2:5/", "!3;0>1:1/;0>2:1/;1>3:4/;2>3:5/");
        within(true, "!2;0>1:1/;1>2:4-5/", "!3;0>1:1/;0>2:1/;1>3:4/;2>3:5/");
        within(false, "!2;0>1:1/;1>2:4-6/", "!3;0>1:1/;0>2:1/;1>3:4/;2>3:5/");
        within(true, "0>0:0-99/", "!1");
        within(true, "!5;5>5:1/;0>1:1/", "");
        S.due("in itself", true, () -> Check.bench("!1;0>1:5/;0>1:5/1").isWithin(0, 0));
        S.sentence("Promise 29",
                "Returns whether the domain of a transducer is contained in the domain of another one.");
        S.due("slot 3 in slot 2", true, () -> Check.bench("", "", "!0", "").isWithin(3, 2));
        S.due("slot 2 in slot 3", false, () -> Check.bench("", "", "!0", "").isWithin(2, 3));
    }

    /** The inner one takes 10 symbols and 11 more again and again, the outer one all but 11 and 12 more. */
    private static void longCounterexample() {
        S.sentence("Promise 29", "Returns whether the domain of one is contained in the domain of other.");
        TransducerBench x = new TransducerBench();
        for (int state = 0; state < 11; state++) {
            x.addRule(0, state, (state + 1) % 11, 7, 7);
        }
        for (int state = 0; state < 12; state++) {
            x.addRule(1, state, (state + 1) % 12, 7, 7);
            x.setFinal(1, state, state != 11);
        }
        x.setFinal(0, 10, true);
        S.due("a word of 131 symbols is in the one alone", false, () -> x.isWithin(0, 1));
        x.setFinal(1, 11, true);
        S.due("now it is in both", true, () -> x.isWithin(0, 1));
        S.due("not the other way", false, () -> x.isWithin(1, 0));
        x.undo();
        x.removeRule(1, 11);
        S.due("the outer one ends at eleven symbols", false, () -> x.isWithin(0, 1));
    }

    /** The outer one comes to all sets of states, the inner one counts the 1s to twelve. */
    private static void allSets() {
        S.sentence("Promise 29", "Returns whether the domain of one is contained in the domain of other.");
        TransducerBench x = new TransducerBench();
        SentencesDomainsTest.fillManySets(x, 1);
        for (int state = 0; state < 12; state++) {
            x.addRule(0, state, (state + 1) % 12, 1, 1);
            x.addRule(0, state, state, 2, 3);
            x.setFinal(0, state, state == 1);
            x.setFinal(1, state, state > 0);
        }
        S.due("a word leads to state 1 alone and to state 0 alone", false, () -> x.isWithin(0, 1));
        x.setFinal(1, 0, true);
        S.due("all words of the three symbols", true, () -> x.isWithin(0, 1));
        S.due("not all have a 1 more than twelve", false, () -> x.isWithin(1, 0));
        for (int state = 0; state < 12; state++) {
            x.setFinal(0, state, true);
        }
        S.due("all in all", true, () -> x.isWithin(1, 0));
        S.due("and the same", true, () -> x.isEquivalent(0, 1));
        x.addTerm(1, 13, false, 5);
        S.due("one rule puts something out", STATE, () -> x.isEquivalent(0, 1));
        TransducerBench y = Check.bench("!0;0>0:0/", "!0;0>0:0-99/");
        for (int symbol = 2; symbol < 100; symbol += 2) {
            y.addRange(0, 0, symbol, symbol);
        }
        S.due("every other symbol in all", true, () -> y.isWithin(0, 1));
        S.due("all in every other symbol", false, () -> y.isWithin(1, 0));
        y.restrict(1, 98, 98);
        S.due("one of them in every other symbol", true, () -> y.isWithin(1, 0));
        y.restrict(0, 0, 97);
        S.due("which is not there", false, () -> y.isWithin(1, 0));
    }
}
