/** Promises 31 to 34, sentence by sentence; composing is in CompositionTest. */
public final class SentencesOperationsTest {
    private static final Sentences S = new Sentences();
    private static final Class<?> ARGUMENT = IllegalArgumentException.class;
    private static final Class<?> STATE = IllegalStateException.class;

    public static void main(String[] args) {
        inverse();
        everyOffset();
        invertedFinals();
        invertedInto();
        notInvertible();
        restricted();
        order();
        removedByRestrict();
        restrictedEnds();
        trimmed();
        trimmedOnAnyWord();
        trimmedChains();
        removedByTrim();
        copied();
        copiedInto();
        S.end();
    }

    private static void inverse(String want, String text) {
        S.due(text, want, () -> {
            TransducerBench x = Check.bench(text);
            return x.invert(0, 3) + " " + Check.show(x, 3);
        });
    }

    private static void inverse() {
        S.sentence("Promise 31", "Puts the inverse of a transducer into a slot: for each rule that is enabled "
                + "for at least one symbol, in ascending order, it has a rule between the same states, whose "
                + "guard consists of the values of the term of the rule for all symbols for which it is "
                + "enabled, and whose only term is the negative offset.");
        inverse("0 0", "");
        inverse("1 0;0>0:0-99/1000", "0>0:0-99/x");
        inverse("1 0;0>1:6-10/999", "0>1:5-9/x+1");
        inverse("1 0;1>0:4-8/1001", "1>0:5-9/x-1");
        inverse("1 0;11>5:95-99/995", "11>5:90-99/x+5");
        inverse("1 0;0>0:0-4/1005", "0>0:0-9/x-5");
        inverse("1 0;0>0:99-99/901", "0>0:0-99/x+99");
        inverse("1 0;0>0:0-0/1099", "0>0:0-99/x-99");
        inverse("0 0", "0>0:1-99/x+99");
        inverse("0 0", "0>0:0-98/x-99");
        inverse("1 0;0>0:3-3,5-5,9-10/998", "0>0:1,3,7,8/x+2");
        inverse("1 0;0>0:1-1,99-99/999", "0>0:0,98-99/x+1");
        inverse("3 0;2>0:1-1/1000;1>0:1-1/1000;0>0:1-1/1000", "2>0:1/x;1>0:1/x;0>0:1/x");
        inverse("2 0;2>0:1-1/1000;0>0:3-3/998", "2>0:1/x;1>0:1/x-2;0>0:1/x+2");
        inverse("0 0", "2>0:99/x+1;1>0:0/x-1");
        inverse("2 0;0>0:1-1/1000;0>0:1-1/1000", "0>0:1/x;0>0:1/x");
    }

    /** The guard has gaps, so that a shift by a wrong distance shows. */
    private static void everyOffset() {
        S.sentence("Promise 31", "whose guard consists of the values of the term of the rule for all symbols "
                + "for which it is enabled, and whose only term is the negative offset.");
        for (int offset = -99; offset <= 99; offset++) {
            TransducerBench x = Check.bench("0>0:0,2-3,31-33,50,61-66,98-99/");
            x.addTerm(0, 0, true, offset);
            StringBuilder want = new StringBuilder();
            for (int symbol : new int[] {0, 2, 3, 31, 32, 33, 50, 61, 62, 63, 64, 65, 66, 98, 99}) {
                int value = symbol + offset;
                want.append(value >= 0 && value < 100 ? " " + value : "");
            }
            int number = offset;
            boolean isEmpty = want.length() == 0;
            S.due("offset " + offset, isEmpty ? 0 : 1, () -> x.invert(0, 1));
            S.due("offset " + offset + ", guard", want.toString(), () -> isEmpty ? "" : guard(x));
            S.due("offset " + offset + ", term", 1000 - offset,
                    () -> isEmpty ? 1000 - number : x.term(1, 0, 0));
        }
    }

    private static String guard(TransducerBench x) {
        StringBuilder text = new StringBuilder();
        int ranges = x.rule(1, 0, 5);
        for (int i = 0; i < ranges; i++) {
            for (int symbol = x.range(1, 0, i, false); symbol <= x.range(1, 0, i, true); symbol++) {
                text.append(' ').append(symbol);
            }
        }
        return text.toString();
    }

    private static void invertedFinals() {
        S.sentence("Promise 31", "The final states are the same.");
        inverse("0 1", "!0");
        inverse("0 101010101010", "!1;!3;!5;!7;!9;!11");
        inverse("1 100000000010;0>1:6-6/999", "!1;!11;0>1:5/x+1");
        inverse("0 111111111111", "!0;!1;!2;!3;!4;!5;!6;!7;!8;!9;!10;!11;0>1:99/x+1");
    }

    private static void invertedInto() {
        S.sentence("Promise 31", "`target`: the slot that gets the inverse, possibly the same");
        for (int target = 0; target < 4; target++) {
            int asked = target;
            TransducerBench x = Check.bench("!1;0>1:5/x+1;1>1:99/x+1", "!5", "!6;3>3:3/", "!7");
            S.due("into slot " + target, 1, () -> x.invert(0, asked));
            S.due("looks of slot " + target, "10;0>1:6-6/999", () -> Check.show(x, asked));
            if (target > 0) {
                S.due("slot 0 stays", "10;0>1:5-5/1001;1>1:99-99/1001", () -> Check.show(x, 0));
            }
        }
        S.sentence("Promise 31", "Returns the number of its rules.");
        TransducerBench y = new TransducerBench();
        for (int i = 0; i < 40; i++) {
            y.addRule(0, 0, 0, 99, 99);
            y.addTerm(0, i, true, i % 2 - 1);
        }
        S.due("forty", 40, () -> y.invert(0, 1));
        S.due("forty of the inverse", 40, () -> y.invert(1, 1));
        y.removeRule(0, 0);
        y.addRule(0, 0, 0, 99, 99);
        y.addTerm(0, 39, true, 1);
        S.due("39 and one that is never enabled", 39, () -> y.invert(0, 1));
        S.due("none", 0, () -> y.invert(3, 1));
    }

    private static void inverting(Object want, String text) {
        S.due(text, want, () -> Check.bench(text).invert(0, 1));
    }

    private static void notInvertible() {
        S.sentence("Promise 31", "Throws IllegalStateException if a rule does not have exactly one term, or its "
                + "term is a constant");
        inverting(STATE, "0>0:1/");
        inverting(STATE, "0>0:1/x,x");
        inverting(STATE, "0>0:1/x,5");
        inverting(STATE, "0>0:1/5,x");
        inverting(STATE, "0>0:1/5");
        inverting(STATE, "0>0:1/0");
        inverting(STATE, "0>0:1/99");
        inverting(STATE, "0>0:1/x;0>0:2/x;0>0:3/");
        inverting(STATE, "0>0:1/99;0>0:2/x;0>0:3/x");
        inverting(STATE, "0>0:1/x;9>9:2/x-3,x;0>0:3/x");
        inverting(1, "0>0:1/x-0");
        inverting(1, "0>0:1/x+98");
        inverting(1, "0>0:1/x-1");
        inverting(0, "0>0:1/x-2");
    }

    private static void restricted(int removed, String want, int low, int high, String text) {
        S.due(text + " to " + low + " to " + high, removed + " " + want, () -> {
            TransducerBench x = Check.bench(text);
            return x.restrict(0, low, high) + " " + Check.show(x, 0);
        });
    }

    private static void restricted() {
        S.sentence("Promise 32", "Restricts all guards of a transducer to a range of symbols.");
        restricted(0, "0", 0, 0, "");
        restricted(0, "0;0>0:5-7/", 5, 7, "0>0:0-99/");
        restricted(0, "0;0>0:0-99/", 0, 99, "0>0:0-99/");
        restricted(0, "0;0>0:0-0/", 0, 0, "0>0:0-99/");
        restricted(0, "0;0>0:99-99/", 99, 99, "0>0:0-99/");
        restricted(0, "0;0>0:63-64/", 63, 64, "0>0:0-99/");
        restricted(0, "0;0>0:0-63/", 0, 63, "0>0:0-99/");
        restricted(0, "0;0>0:64-99/", 64, 99, "0>0:0-99/");
        restricted(0, "0;0>0:63-63/", 63, 63, "0>0:0-99/");
        restricted(0, "0;0>0:64-64/", 64, 64, "0>0:0-99/");
        restricted(0, "0;0>0:3-3,5-5,7-7/1000", 3, 7, "0>0:1,3,5,7,9/x");
        restricted(0, "0;0>0:6-9,20-25/5;3>4:8-8,25-25/1001", 6, 25, "0>0:0-9,20-30/5;3>4:5,8,25-30/x+1");
        restricted(0, "100;0>0:6-6/", 6, 6, "!2;0>0:6/");
    }

    private static void order() {
        S.sentence("Promise 32",
                "Rules whose guards would be empty are removed; the others keep their order.");
        restricted(1, "0", 6, 9, "0>0:5,10/");
        restricted(2, "0", 6, 9, "0>0:0-5/;0>0:10-99/x");
        restricted(1, "0;1>1:6-6/1;2>2:9-9/2", 6, 9, "1>1:6/1;0>0:5,10/;2>2:9/2");
        restricted(1, "0;1>1:6-6/1;2>2:9-9/2", 6, 9, "0>0:5/;1>1:6/1;2>2:9/2");
        restricted(1, "0;1>1:6-6/1;2>2:9-9/2", 6, 9, "1>1:6/1;2>2:9/2;0>0:10/");
        restricted(4, "0;1>1:6-6/1;2>2:9-9/2,2", 6, 9, "3>3:1/;3>3:2/;1>1:6/1;3>3:3/;2>2:9/2,2;3>3:4/x");
        restricted(2, "0;1>1:7-7/1;1>1:7-7/1", 7, 7, "1>1:7/1;0>0:1/;1>1:7/1;0>0:99/");
        restricted(0, "0;0>0:6-6/1099", 6, 9, "0>0:0-6/x+99");
        S.due("removed rules leave room", 0, () -> {
            TransducerBench x = Check.bench("0>0:5/1,2;0>0:6/3");
            x.restrict(0, 6, 6);
            x.addRule(0, 1, 1, 9, 9);
            return Check.show(x, 0).equals("0;0>0:6-6/3;1>1:9-9/") ? 0 : 1;
        });
    }

    private static void removedByRestrict() {
        S.sentence("Promise 32", "Returns the number of rules that were removed.");
        TransducerBench x = new TransducerBench();
        for (int i = 0; i < 40; i++) {
            x.addRule(0, 0, 0, i, i + 20);
        }
        S.due("none", 0, () -> x.restrict(0, 20, 39));
        S.due("none again", 0, () -> x.restrict(0, 20, 39));
        S.due("those above 38", 1, () -> x.restrict(0, 0, 38));
        S.due("those below 30", 10, () -> x.restrict(0, 30, 99));
        S.due("the others", 29, () -> x.restrict(0, 99, 99));
        S.due("none is left", 0, () -> x.restrict(0, 0, 99));
        S.due("an empty slot", 0, () -> x.restrict(1, 5, 5));
    }

    private static void restrictedEnds() {
        S.sentence("Promise 32", "Throws IllegalArgumentException if there is no such slot or symbol, or high "
                + "is below low");
        TransducerBench x = Check.bench("0>0:0-99/");
        S.due("0 to 99", 0, () -> x.restrict(0, 0, 99));
        S.due("0 to 100", ARGUMENT, () -> x.restrict(0, 0, 100));
        S.due("-1 to 99", ARGUMENT, () -> x.restrict(0, -1, 99));
        S.due("5 to 5", 0, () -> x.restrict(0, 5, 5));
        S.due("5 to 4", ARGUMENT, () -> x.restrict(0, 5, 4));
        S.due("slot 4", ARGUMENT, () -> x.restrict(4, 0, 99));
        S.due("the guard then", "0;0>0:5-5/", () -> Check.show(x, 0));
    }

    private static void trimmed(int removed, String want, String text) {
        S.due(text, removed + " " + want, () -> {
            TransducerBench x = Check.bench(text);
            return x.trim(0) + " " + Check.show(x, 0);
        });
    }

    private static void trimmed() {
        S.sentence("Promise 33", "Removes all rules of a transducer that occur in no accepting run on any word. "
                + "The others keep their order.");
        trimmed(0, "0", "");
        trimmed(0, "1", "!0");
        trimmed(0, "1;0>0:5-5/", "!0;0>0:5/");
        trimmed(1, "0", "0>0:5/");
        trimmed(1, "1", "!0;0>1:5/");
        trimmed(1, "1", "!0;1>0:5/");
        trimmed(1, "10", "!1;0>1:99/x+1");
        trimmed(1, "10", "!1;0>1:0-40/x+60,x-60");
        trimmed(0, "10;0>1:98-99/1001", "!1;0>1:98-99/x+1");
        trimmed(2, "10;0>1:5-5/", "!1;2>1:5/;0>1:5/;0>2:0/x-1");
        trimmed(2, "10;0>1:5-5/", "!1;0>2:5/;0>1:5/;2>1:0/x-1");
        trimmed(0, "10;0>2:5-5/;2>1:0-0/;0>1:5-5/", "!1;0>2:5/;2>1:0/;0>1:5/");
        trimmed(3, "10;3>1:3-3/;0>3:5-5/;0>1:1-1/", "!1;3>1:3/;9>9:1/;0>3:5/;3>4:1/;0>1:1/;4>4:1/");
        trimmed(1, "10;0>1:5-5/;0>1:5-5/", "!1;0>1:5/;1>2:1/;0>1:5/");
        trimmed(2, "100", "!2;0>1:5/;1>0:5/");
        trimmed(0, "100;0>1:5-5/;1>0:5-5/;1>2:5-5/", "!2;0>1:5/;1>0:5/;1>2:5/");
        trimmed(2, "110;0>1:5-5/", "!1;!2;0>1:5/;2>2:5/;2>1:1/");
    }

    private static void trimmedOnAnyWord() {
        S.sentence("Promise 33",
                "Removes all rules of a transducer that occur in no accepting run on any word.");
        TransducerBench x = new TransducerBench();
        for (int state = 10; state >= 0; state--) {
            x.addRule(0, state, state + 1, 5, 5);
        }
        x.setFinal(0, 11, true);
        S.due("a word of eleven symbols, the rules in another order", 0, () -> x.trim(0));
        S.due("all are there", 11, () -> x.rules(0));
        x.setFinal(0, 11, false);
        x.setFinal(0, 10, true);
        S.due("a word of ten symbols", 1, () -> x.trim(0));
        S.due("the first rule went", 9, () -> x.rule(0, 0, 0));
        x.removeRule(0, 5);
        S.due("no word", 9, () -> x.trim(0));
        TransducerBench y = new TransducerBench();
        for (int state = 0; state < 11; state++) {
            y.addRule(0, state, state + 1, 5, 5);
        }
        y.setFinal(0, 11, true);
        S.due("a word of eleven symbols, the rules in their order", 0, () -> y.trim(0));
        y.setFinal(0, 0, true);
        y.removeRule(0, 10);
        S.due("a final state that is not reached", 10, () -> y.trim(0));
    }

    /** Chains of all states with loops at both ends: rules in the order that needs most looks. */
    private static void trimmedChains() {
        S.sentence("Promise 33",
                "Removes all rules of a transducer that occur in no accepting run on any word.");
        for (boolean isForward : new boolean[] {false, true}) {
            TransducerBench x = new TransducerBench();
            x.addRule(0, 11, 11, 7, 7);
            x.addTerm(0, 0, false, 70);
            x.addRule(0, 0, 0, 6, 6);
            x.addTerm(0, 1, false, 60);
            for (int i = 0; i < 11; i++) {
                int state = isForward ? i : 10 - i;
                x.addRule(0, state, state + 1, 5, 5);
            }
            x.setFinal(0, 11, true);
            S.due("all are used", 0, () -> x.trim(0));
            S.due("both loops put something out", 2, () -> x.outputSymbols(0));
            x.setFinal(0, 10, true);
            x.setFinal(0, 11, false);
            S.due("the end and its loop are not", 2, () -> x.trim(0));
            S.due("one loop puts something out", 1, () -> x.outputSymbols(0));
            x.setFinal(0, 10, false);
            S.due("nothing is", 11, () -> x.trim(0));
        }
    }

    private static void removedByTrim() {
        S.sentence("Promise 33", "Returns the number of rules that were removed.");
        TransducerBench x = new TransducerBench();
        for (int i = 0; i < 40; i++) {
            x.addRule(0, i % 4 == 0 ? 0 : 2, 1, i, i);
        }
        x.setFinal(0, 1, true);
        S.due("thirty", 30, () -> x.trim(0));
        S.due("ten are left", 10, () -> x.rules(0));
        S.due("in their order", 36, () -> x.range(0, 9, 0, false));
        S.due("none", 0, () -> x.trim(0));
        x.setFinal(0, 1, false);
        S.due("ten", 10, () -> x.trim(0));
        S.due("none of none", 0, () -> x.trim(0));
    }

    private static void copied() {
        S.sentence("Promise 34", "Copies a transducer into another slot.");
        String[] texts = {"", "!0", "!1;!11;0>11:0-9,50/x+3,7,x-1;11>1:99/", "0>0:1/;0>0:1/"};
        for (String text : texts) {
            TransducerBench x = Check.bench(text, "!5;5>5:5/5,5;5>5:6/", "!6");
            String want = Check.show(x, 0);
            x.copy(0, 1);
            S.due(text, want, () -> Check.show(x, 1));
            S.due(text + " stays", want, () -> Check.show(x, 0));
            S.due("slot 2 stays", "1000000", () -> Check.show(x, 2));
        }
        TransducerBench y = Check.bench("!1;0>1:5/x");
        y.copy(0, 1);
        y.addRange(1, 0, 7, 7);
        y.addTerm(1, 0, false, 9);
        y.addRule(1, 2, 2, 2, 2);
        y.setFinal(1, 4, true);
        S.due("what becomes of the copy is no matter", "10;0>1:5-5/1000", () -> Check.show(y, 0));
        y.removeRule(0, 0);
        S.due("nor what becomes of the other", "10010;0>1:5-5,7-7/1000,9;2>2:2-2/", () -> Check.show(y, 1));
    }

    private static void copiedInto() {
        S.sentence("Promise 34", "`target`: the slot that gets the copy, possibly the same");
        for (int target = 0; target < 4; target++) {
            int asked = target;
            TransducerBench x = Check.bench("", "", "!1;0>1:5/x", "!3");
            S.due("into slot " + target, 1, () -> x.copy(2, asked));
            S.due("looks of slot " + target, "10;0>1:5-5/1000", () -> Check.show(x, asked));
            S.due("looks of slot 2", "10;0>1:5-5/1000", () -> Check.show(x, 2));
        }
        S.sentence("Promise 34", "Returns the number of rules.");
        TransducerBench y = new TransducerBench();
        S.due("none", 0, () -> y.copy(3, 0));
        for (int i = 0; i < 40; i++) {
            y.addRule(0, 0, 0, i, i);
        }
        S.due("forty", 40, () -> y.copy(0, 1));
        S.due("forty of the copy", 40, () -> y.copy(1, 1));
        S.due("none over forty", 0, () -> y.copy(3, 1));
        S.due("are none", 0, () -> y.rules(1));
    }
}
