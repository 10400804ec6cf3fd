import java.util.function.Function;

/**
 * What calls that succeed change, and that they change nothing else: the questions nothing, the others
 * the parts of the state that their promises name. The parts are those of Views.
 */
public final class TouchedTest {
    private static final Sentences S = new Sentences();
    private static final String NOTHING_ELSE = "Nothing is promised beyond the answers and state changes "
            + "described above, and nothing about an object after its 512th call.";
    private static final String IS_CHANGE = "A call that succeeds is a change also if nothing is different, "
            + "as adding a range that is there already, or trimming that removes nothing.";

    public static void main(String[] args) {
        questions();
        questionsOfFull();
        word();
        results();
        buffer();
        slots();
        operations();
        noDifference();
        undo();
        S.end();
    }

    private static void ordinary(
            String parts, String what, Object want, Function<TransducerBench, Object> call) {
        S.touches(parts, what, want, () -> Views.ordinary(), call);
    }

    private static void full(
            String parts, String what, Object want, Function<TransducerBench, Object> call) {
        S.touches(parts, what + " of a full bench", want, () -> Views.full(), call);
    }

    private static void questions() {
        S.sentence("Not promised", NOTHING_ELSE);
        ordinary("nothing", "rules", 3, x -> x.rules(0));
        ordinary("nothing", "finals", 10, x -> x.finals(0));
        ordinary("nothing", "rule", 2, x -> x.rule(0, 1, 5));
        ordinary("nothing", "range", 70, x -> x.range(0, 1, 1, true));
        ordinary("nothing", "term", 995, x -> x.term(0, 1, 0));
        ordinary("nothing", "valueOf", -5, x -> x.valueOf(0, 1, 0, 0));
        ordinary("nothing", "symbol", 50, x -> x.symbol(1));
        ordinary("nothing", "result", 50, x -> x.result(3));
        ordinary("nothing", "runs", 2L, x -> x.runs(1));
        ordinary("nothing", "domainCount", 11L, x -> x.domainCount(0, 1));
        ordinary("nothing", "domainShare", 0.11, x -> x.domainShare(0, 1));
        ordinary("nothing", "outputSymbols", 28, x -> x.outputSymbols(0));
        ordinary("nothing", "isDeterministic", false, x -> x.isDeterministic(0));
        ordinary("nothing", "isFunctional", true, x -> x.isFunctional(0));
        ordinary("nothing", "isFunctional that is false", false, x -> x.isFunctional(1));
        ordinary("nothing", "isEquivalent", false, x -> x.isEquivalent(0, 3));
        ordinary("nothing", "isEquivalent to itself", true, x -> x.isEquivalent(0, 0));
        ordinary("nothing", "isWithin", true, x -> x.isWithin(3, 1));
        ordinary("nothing", "isWithin that is false", false, x -> x.isWithin(2, 0));
    }

    private static void questionsOfFull() {
        S.sentence("Not promised", NOTHING_ELSE);
        full("nothing", "rules", 40, x -> x.rules(3));
        full("nothing", "symbol", 0, x -> x.symbol(9));
        full("nothing", "result", 5, x -> x.result(59));
        full("nothing", "runs", 1L, x -> x.runs(3));
        full("nothing", "domainCount", 2560000L, x -> x.domainCount(3, 4));
        full("nothing", "domainShare", 0.0256, x -> x.domainShare(3, 4));
        full("nothing", "outputSymbols", 6, x -> x.outputSymbols(3));
        full("nothing", "isDeterministic", true, x -> x.isDeterministic(3));
        full("nothing", "isFunctional", true, x -> x.isFunctional(3));
        full("nothing", "isEquivalent", true, x -> x.isEquivalent(3, 3));
        full("nothing", "isWithin", true, x -> x.isWithin(3, 3));
    }

    private static void word() {
        S.sentence("Promise 15", "Appends a symbol to the word.");
        ordinary("word", "push", 3, x -> x.push(99));
        S.sentence("Promise 16", "Makes the word empty.");
        ordinary("word", "clearWord", 2, x -> x.clearWord());
        full("word", "clearWord", 10, x -> x.clearWord());
        S.touches("nothing", "clearWord of an empty word", 0, () -> Check.bench("!0"), x -> x.clearWord());
        S.sentence("Promise 21", "Makes the result the word. The result stays.");
        ordinary("word", "useResult", 4, x -> x.useResult());
        S.touches("nothing", "useResult when both are empty", 0, () -> Check.bench("!0"),
                x -> x.useResult());
    }

    private static void results() {
        S.sentence("Promise 19", "Finds an output of a transducer for the word, which becomes the result.");
        ordinary("result", "the last output", 2, x -> x.transduce(1, true));
        ordinary("nothing", "the output that is the result already", 4, x -> x.transduce(1, false));
        full("nothing", "the output that is the result already", 60, x -> x.transduce(3, true));
        S.sentence("Promise 24", "Finds the shortest word in the domain of a transducer, of several the "
                + "one that comes first, which becomes the result.");
        ordinary("result", "one symbol", 1, x -> x.shortestInput(0));
        ordinary("result", "no symbol", 0, x -> x.shortestInput(1));
        full("result", "no symbol", 0, x -> x.shortestInput(3));
    }

    private static void buffer() {
        S.sentence("Promise 13", "Appends a character to the input buffer.");
        ordinary("buffer", "feed", 10, x -> x.feed('x'));
        S.sentence("Promise 14", "Parses the input buffer as a transducer, which is put into a slot.");
        for (int slot = 0; slot < 4; slot++) {
            int asked = slot;
            ordinary("slot " + slot + ", history, buffer", "parse", 1, x -> x.parse(asked));
            full("slot " + slot + ", history, buffer", "parse", 17, x -> x.parse(asked));
        }
    }

    private static void slots() {
        S.sentence("Promise 2", "Makes a state final or not.");
        ordinary("slot 3, history", "setFinal", false, x -> x.setFinal(3, 0, true));
        ordinary("slot 0, history", "setFinal, not final", true, x -> x.setFinal(0, 1, false));
        S.sentence("Promise 3", "Adds a rule without terms, whose guard is a range of symbols.");
        ordinary("slot 0, history", "addRule", 3, x -> x.addRule(0, 0, 0, 0, 0));
        full("slot 2, history", "addRule", 0, x -> x.addRule(2, 11, 11, 99, 99));
        S.sentence("Promise 4", "Adds a range of symbols to the guard of a rule.");
        ordinary("slot 1, history", "addRange", 88, x -> x.addRange(1, 1, 0, 1));
        S.sentence("Promise 5", "Appends a term to a rule.");
        ordinary("slot 2, history", "addTerm", 4, x -> x.addTerm(2, 0, false, 9));
        full("slot 3, history", "addTerm", 1, x -> x.addTerm(3, 39, false, 9));
        S.sentence("Promise 6",
                "Removes a rule. The rules with higher numbers get numbers that are lower by 1.");
        ordinary("slot 0, history", "removeRule", 2, x -> x.removeRule(0, 0));
        full("slot 3, history", "removeRule", 39, x -> x.removeRule(3, 39));
    }

    private static void operations() {
        S.sentence("Promise 30", "Puts the composition of two transducers into a slot.");
        ordinary("slot 2, history", "compose", 4, x -> x.compose(0, 0, 2));
        ordinary("slot 0, history", "compose into the first", 3, x -> x.compose(0, 1, 0));
        ordinary("slot 1, history", "compose into the second", 3, x -> x.compose(0, 1, 1));
        S.sentence("Promise 31", "The final states are the same.");
        ordinary("slot 2, history", "invert", 3, x -> x.invert(0, 2));
        ordinary("slot 0, history", "invert into itself", 3, x -> x.invert(0, 0));
        S.sentence("Promise 32", "Restricts all guards of a transducer to a range of symbols.");
        ordinary("slot 0, history", "restrict", 1, x -> x.restrict(0, 8, 9));
        full("slot 3, history", "restrict", 39, x -> x.restrict(3, 39, 99));
        S.sentence("Promise 33", "Removes all rules of a transducer that occur in no accepting run on any "
                + "word.");
        ordinary("slot 3, history", "trim", 1, x -> x.trim(3));
        S.sentence("Promise 34", "Copies a transducer into another slot.");
        ordinary("slot 3, history", "copy", 3, x -> x.copy(0, 3));
        full("slot 0, history", "copy", 40, x -> x.copy(3, 0));
    }

    private static void noDifference() {
        S.sentence("Details", IS_CHANGE);
        ordinary("history", "setFinal of a final state", true, x -> x.setFinal(0, 1, true));
        ordinary("history", "setFinal of another", false, x -> x.setFinal(0, 0, false));
        ordinary("history", "addRange that is there", 11, x -> x.addRange(0, 0, 10, 20));
        ordinary("history", "trim that removes nothing", 0, x -> x.trim(0));
        ordinary("history", "restrict to all symbols", 0, x -> x.restrict(0, 0, 99));
        ordinary("history", "copy onto itself", 2, x -> x.copy(1, 1));
        full("history", "copy onto itself", 40, x -> x.copy(3, 3));
        full("history", "copy of an empty slot", 0, x -> x.copy(0, 1));
        full("history", "compose of empty slots", 0, x -> x.compose(0, 1, 2));
        full("history", "invert of an empty slot", 0, x -> x.invert(0, 1));
        S.touches("history", "parse of an empty text into an empty slot", 0, () -> Check.bench("!0"),
                x -> x.parse(1));
    }

    private static void undo() {
        S.sentence("Promise 35", "Takes back the latest change of a slot that was not taken back: a "
                + "successful call of setFinal, addRule, addRange, addTerm, removeRule, parse, compose, "
                + "invert, restrict, trim or copy.");
        ordinary("slot 0, history", "undo", 0, x -> x.undo());
        full("slot 3, history", "undo", 3, x -> x.undo());
    }
}
