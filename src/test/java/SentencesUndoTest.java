import java.util.function.Consumer;

/** Promise 35, sentence by sentence. */
public final class SentencesUndoTest {
    private static final Sentences S = new Sentences();
    private static final Class<?> STATE = IllegalStateException.class;

    public static void main(String[] args) {
        everyCall();
        otherCalls();
        failedCalls();
        latestFirst();
        notTakenBack();
        eight();
        olderAreGone();
        full();
        slots();
        none();
        S.end();
    }

    /** The call is a change of the slot, which is taken back, and nothing else is. */
    private static void change(String what, int slot, Consumer<TransducerBench> call) {
        TransducerBench x = Views.ordinary();
        call.accept(x);
        S.due(what, slot, () -> x.undo());
        TransducerBench untouched = Views.ordinary();
        for (int i = 0; i < 4; i++) {
            int asked = i;
            S.due(what + ", slot " + i + " then", Check.show(untouched, i), () -> Check.show(x, asked));
        }
        S.due(what + ", the change before it", 0, () -> x.undo());
        untouched.undo();
        S.due(what + ", slot 0 before it", Check.show(untouched, 0), () -> Check.show(x, 0));
    }

    private static void everyCall() {
        S.sentence("Promise 35", "Takes back the latest change of a slot that was not taken back: a "
                + "successful call of setFinal, addRule, addRange, addTerm, removeRule, parse, compose, "
                + "invert, restrict, trim or copy.");
        change("setFinal", 2, x -> x.setFinal(2, 11, true));
        change("setFinal, not final", 1, x -> x.setFinal(1, 0, false));
        change("addRule", 3, x -> x.addRule(3, 0, 0, 0, 99));
        change("addRange", 0, x -> x.addRange(0, 1, 0, 99));
        change("addTerm", 1, x -> x.addTerm(1, 1, false, 99));
        change("removeRule", 1, x -> x.removeRule(1, 0));
        change("parse", 3, x -> x.parse(3));
        change("compose", 2, x -> x.compose(0, 1, 2));
        change("compose into the first", 0, x -> x.compose(0, 1, 0));
        change("compose into the second", 1, x -> x.compose(0, 1, 1));
        change("invert", 2, x -> x.invert(0, 2));
        change("invert into itself", 0, x -> x.invert(0, 0));
        change("restrict", 0, x -> x.restrict(0, 8, 8));
        change("trim", 3, x -> x.trim(3));
        change("copy", 3, x -> x.copy(0, 3));
        change("setFinal of what is final", 0, x -> x.setFinal(0, 1, true));
        change("addRange of what is there", 1, x -> x.addRange(1, 0, 12, 13));
        change("restrict to all", 2, x -> x.restrict(2, 0, 99));
        change("trim of nothing", 0, x -> x.trim(0));
        change("copy onto itself", 1, x -> x.copy(1, 1));
    }

    private static void otherCalls() {
        S.sentence("Promise 35", "a successful call of setFinal, addRule, addRange, addTerm, removeRule, parse, "
                + "compose, invert, restrict, trim or copy.");
        TransducerBench x = Check.bench("!1;0>1:5/x+1", "!0");
        x.feed('!');
        x.push(5);
        x.transduce(0, false);
        x.useResult();
        x.clearWord();
        x.shortestInput(0);
        x.domainCount(0, 2);
        x.isEquivalent(0, 1);
        x.outputSymbols(0);
        S.due("others are no changes", 1, () -> x.undo());
        S.due("the change before", 0, () -> x.undo());
        S.due("there is no more", STATE, () -> x.undo());
        S.due("the result stays", 5, () -> x.result(0));
        S.due("the buffer stays", 2, () -> x.feed('7'));
        S.due("the word stays", 0, () -> x.clearWord());
    }

    private static void failedCalls() {
        S.sentence("Promise 35", "a successful call of");
        TransducerBench x = Check.bench("!0;0>0:1/1,1,1;0>0:1/2,2,2");
        for (int i = 0; i < 38; i++) {
            x.addRule(1, 0, 0, 1, 1);
        }
        x.addRule(1, 0, 0, 1, 1);
        x.addRule(1, 0, 0, 1, 1);
        Check.feed(x, "!12");
        Check.outcome(() -> x.parse(2));
        Check.feed(x, "!1;");
        x.parse(3);
        Check.outcome(() -> x.setFinal(0, 12, true));
        Check.outcome(() -> x.addRule(1, 0, 0, 0, 0));
        Check.outcome(() -> x.addRange(0, 2, 0, 0));
        Check.outcome(() -> x.addTerm(0, 0, true, 100));
        Check.outcome(() -> x.removeRule(3, 0));
        Check.outcome(() -> x.compose(0, 0, 2));
        Check.outcome(() -> x.invert(0, 3));
        Check.outcome(() -> x.restrict(0, 2, 1));
        Check.outcome(() -> x.trim(4));
        Check.outcome(() -> x.copy(0, 4));
        S.due("the latest one is a rule of slot 1", 1, () -> x.undo());
        S.due("which has 39 then", 39, () -> x.rules(1));
    }

    private static void latestFirst() {
        S.sentence("Promise 35", "Takes back the latest change of a slot that was not taken back:");
        TransducerBench x = new TransducerBench();
        x.addRule(2, 0, 1, 5, 5);
        x.addTerm(2, 0, true, 1);
        x.addRange(2, 0, 7, 7);
        x.copy(2, 0);
        x.setFinal(2, 1, true);
        x.removeRule(2, 0);
        x.copy(0, 2);
        String[] before = {"10", "10;0>1:5-5,7-7/1001", "0;0>1:5-5,7-7/1001", "0;0>1:5-5,7-7/1001",
            "0;0>1:5-5/1001", "0;0>1:5-5/", "0"};
        int[] slot = {2, 2, 2, 0, 2, 2, 2};
        for (int i = 0; i < 7; i++) {
            int want = slot[i];
            S.due("change " + (7 - i), want, () -> x.undo());
            S.due("slot 2 before change " + (7 - i), before[i], () -> Check.show(x, 2));
            S.due("slot 0 before change " + (7 - i), i < 3 ? "0;0>1:5-5,7-7/1001" : "0",
                    () -> Check.show(x, 0));
        }
        S.due("no change before", STATE, () -> x.undo());
    }

    private static void notTakenBack() {
        S.sentence("Promise 35", "Takes back the latest change of a slot that was not taken back:");
        TransducerBench x = new TransducerBench();
        x.setFinal(0, 0, true);
        x.setFinal(1, 1, true);
        S.due("the second change", 1, () -> x.undo());
        x.setFinal(2, 2, true);
        S.due("the third one", 2, () -> x.undo());
        S.due("not the second one again, but the first", 0, () -> x.undo());
        S.due("none", STATE, () -> x.undo());
        S.due("no state is final", 0, () -> x.finals(0) + x.finals(1) + x.finals(2));
    }

    private static void eight() {
        S.sentence("Promise 35", "At most 8 changes can be taken back.");
        for (int changes = 0; changes <= 12; changes++) {
            TransducerBench x = new TransducerBench();
            for (int i = 0; i < changes; i++) {
                x.setFinal(i % 4, i, true);
            }
            for (int i = changes - 1; i >= Math.max(0, changes - 8); i--) {
                int slot = i % 4;
                S.due("change " + i + " of " + changes, slot, () -> x.undo());
            }
            S.due("one more of " + changes, STATE, () -> x.undo());
            int left = Math.max(0, changes - 8);
            S.due("final states that stay of " + changes, left, () -> {
                int count = 0;
                for (int slot = 0; slot < 4; slot++) {
                    count += Integer.bitCount(x.finals(slot));
                }
                return count;
            });
        }
    }

    private static void olderAreGone() {
        S.sentence("Details", "Older changes than the latest 8 are gone for good.");
        for (int taken = 0; taken <= 8; taken++) {
            for (int later = 0; later <= 3; later++) {
                TransducerBench x = new TransducerBench();
                for (int i = 0; i < 10; i++) {
                    x.addRule(0, 0, 0, i, i);
                }
                for (int i = 0; i < taken; i++) {
                    x.undo();
                }
                for (int i = 0; i < later; i++) {
                    x.addRule(1, 0, 0, i, i);
                }
                int want = Math.min(8, 8 - taken + later);
                S.due("10 changes, " + taken + " taken back, " + later + " more", want, () -> count(x));
                int rules = 10 - taken - Math.max(0, want - later);
                S.due("rules that stay after " + taken + " and " + later, rules, () -> x.rules(0));
            }
        }
    }

    private static int count(TransducerBench x) {
        int count = 0;
        while (count < 20 && Check.outcome(() -> x.undo()) instanceof Integer) {
            count++;
        }
        return count;
    }

    private static void full() {
        S.sentence("Promise 35", "Takes back the latest change of a slot");
        TransducerBench x = new TransducerBench();
        for (int i = 0; i < 40; i++) {
            x.addRule(0, i % 12, i % 11, i, i + 50);
        }
        for (int k = 0; k < 6; k++) {
            x.addTerm(0, 39, k % 2 == 0, k);
        }
        String want = Check.show(x, 0);
        x.restrict(0, 0, 0);
        S.due("forty rules, of which one is left", 1, () -> x.rules(0));
        S.due("taken back", 0, () -> x.undo());
        S.due("are there again", want, () -> Check.show(x, 0));
    }

    private static void slots() {
        S.sentence("Promise 35", "Returns the slot that changed.");
        int[] slots = {3, 0, 2, 1, 1, 3, 2, 0};
        TransducerBench x = new TransducerBench();
        for (int slot : slots) {
            x.addRule(slot, 0, 0, 5, 5);
        }
        for (int i = 7; i >= 0; i--) {
            int want = slots[i];
            S.due("addRule " + i, want, () -> x.undo());
        }
        TransducerBench y = Check.bench("!0", "!1");
        y.compose(0, 1, 2);
        y.invert(0, 3);
        y.copy(0, 1);
        S.due("copy", 1, () -> y.undo());
        S.due("invert", 3, () -> y.undo());
        S.due("compose", 2, () -> y.undo());
    }

    private static void none() {
        S.sentence("Promise 35", "Throws IllegalStateException if there is none");
        TransducerBench x = new TransducerBench();
        S.due("a new object", STATE, () -> x.undo());
        S.due("again", STATE, () -> x.undo());
        x.trim(1);
        S.due("a change", 1, () -> x.undo());
        S.due("taken back", STATE, () -> x.undo());
        S.due("again then", STATE, () -> x.undo());
        x.trim(2);
        S.due("another change", 2, () -> x.undo());
        Check.feed(x, "0>1:9");
        S.due("an error", -105, () -> x.parse(0));
        S.due("is none", STATE, () -> x.undo());
    }
}
