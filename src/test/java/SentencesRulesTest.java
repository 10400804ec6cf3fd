/** Promises 1 to 12, sentence by sentence; what these calls refuse is in RefusedTest. */
public final class SentencesRulesTest {
    private static final Sentences S = new Sentences();
    private static final Class<?> ARGUMENT = IllegalArgumentException.class;
    private static final Class<?> INDEX = IndexOutOfBoundsException.class;
    private static final Class<?> STATE = IllegalStateException.class;

    public static void main(String[] args) {
        newObject();
        setFinal();
        addRule();
        fortyRules();
        addRange();
        addTerm();
        sixTerms();
        removeRule();
        rules();
        finals();
        rule();
        ranges();
        range();
        term();
        valueOf();
        S.end();
    }

    private static void newObject() {
        S.sentence("Promise 1",
                "Creates a workbench whose slots hold transducers without rules and final states.");
        TransducerBench x = new TransducerBench();
        for (int slot = 0; slot < 4; slot++) {
            int asked = slot;
            S.due("rules of slot " + slot, 0, () -> x.rules(asked));
            S.due("final states of slot " + slot, 0, () -> x.finals(asked));
            S.due("looks of slot " + slot, "0", () -> Check.show(x, asked));
            S.due("runs of slot " + slot, 0L, () -> x.runs(asked));
        }
        S.due("another one is its own", 0, () -> {
            x.addRule(0, 0, 0, 0, 0);
            return new TransducerBench().rules(0);
        });
        S.due("its word", 0, () -> x.clearWord());
        S.due("its result", 0, () -> x.useResult());
        S.due("its buffer", 1, () -> x.feed('!'));
        S.due("its changes", STATE, () -> new TransducerBench().undo());
    }

    private static void setFinal() {
        S.sentence("Promise 2", "Makes a state final or not.");
        TransducerBench x = new TransducerBench();
        int all = 0;
        for (int state = 0; state < 12; state++) {
            all += 1 << state;
            int want = all;
            x.setFinal(3, state, true);
            S.due("up to state " + state, want, () -> x.finals(3));
        }
        for (int state = 11; state >= 0; state--) {
            all -= 1 << state;
            int want = all;
            x.setFinal(3, state, false);
            S.due("below state " + state, want, () -> x.finals(3));
        }
        S.due("the other slots", 0, () -> x.finals(0) + x.finals(1) + x.finals(2));
        S.sentence("Promise 2", "Returns whether it was final.");
        S.due("at first", false, () -> x.setFinal(0, 0, true));
        S.due("final before", true, () -> x.setFinal(0, 0, true));
        S.due("final before, not now", true, () -> x.setFinal(0, 0, false));
        S.due("not final before", false, () -> x.setFinal(0, 0, false));
        S.due("nor then", false, () -> x.setFinal(0, 0, true));
        S.due("another state", false, () -> x.setFinal(0, 11, true));
        S.due("the same state of another slot", false, () -> x.setFinal(1, 0, true));
        S.due("after taking back", true, () -> {
            x.undo();
            return x.setFinal(0, 11, false);
        });
    }

    private static void addRule() {
        S.sentence("Promise 3", "Adds a rule without terms, whose guard is a range of symbols.");
        int[][] ranges = {{0, 0}, {99, 99}, {0, 99}, {0, 63}, {64, 99}, {63, 64}, {63, 63}, {64, 64},
            {1, 98}, {62, 65}};
        for (int[] range : ranges) {
            TransducerBench x = new TransducerBench();
            x.addRule(0, 0, 11, range[0], range[1]);
            S.due("its looks", "0;0>11:" + range[0] + "-" + range[1] + "/", () -> Check.show(x, 0));
            S.due("its terms", 0, () -> x.rule(0, 0, 4));
            S.due("its symbols", range[1] - range[0] + 1, () -> x.rule(0, 0, 2));
        }
        TransducerBench y = Check.bench("3>4:5,7,9/x+1,6");
        y.removeRule(0, 0);
        y.addRule(0, 1, 2, 8, 8);
        S.due("nothing of a rule that was there before", "0;1>2:8-8/", () -> Check.show(y, 0));
        S.due("for all of its guard", 1, () -> y.rule(0, 0, 3));
        y.undo();
        y.undo();
        y.addRule(0, 1, 2, 99, 99);
        S.due("the other rules stay", "0;3>4:5-5,7-7,9-9/1001,6;1>2:99-99/", () -> Check.show(y, 0));
        S.sentence("Promise 3", "Returns the number of the rule.");
        S.due("after two", 2, () -> y.addRule(0, 0, 0, 0, 0));
        S.due("after three", 3, () -> y.addRule(0, 0, 0, 0, 0));
        S.due("in another slot", 0, () -> y.addRule(1, 0, 0, 0, 0));
        S.due("after one was removed", 3, () -> {
            y.removeRule(0, 1);
            return y.addRule(0, 0, 0, 0, 0);
        });
    }

    private static void fortyRules() {
        S.sentence("Promise 3", "Throws IllegalStateException if there are 40 rules");
        TransducerBench x = new TransducerBench();
        for (int i = 0; i < 39; i++) {
            x.addRule(0, 0, 0, i, i);
        }
        S.due("there are 39", 39, () -> x.addRule(0, 11, 11, 99, 99));
        S.due("there are 40", STATE, () -> x.addRule(0, 0, 0, 0, 0));
        S.due("still", STATE, () -> x.addRule(0, 0, 0, 0, 0));
        S.due("in another slot are none", 0, () -> x.addRule(1, 0, 0, 0, 0));
        x.removeRule(0, 0);
        S.due("one was removed", 39, () -> x.addRule(0, 1, 1, 50, 50));
        S.due("there are 40 again", STATE, () -> x.addRule(0, 0, 0, 0, 0));
        x.undo();
        S.due("one was taken back", 39, () -> x.addRule(0, 2, 2, 60, 60));
        S.due("the last one", 60, () -> x.range(0, 39, 0, false));
        S.due("the one before", 99, () -> x.range(0, 38, 0, false));
    }

    private static void addRange() {
        S.sentence("Promise 4", "Adds a range of symbols to the guard of a rule.");
        TransducerBench x = Check.bench("0>1:50/x;2>3:50/5");
        addRange(x, 60, 61, "50-50,60-61");
        addRange(x, 59, 59, "50-50,59-61");
        addRange(x, 62, 62, "50-50,59-62");
        addRange(x, 57, 65, "50-50,57-65");
        addRange(x, 58, 60, "50-50,57-65");
        addRange(x, 0, 0, "0-0,50-50,57-65");
        addRange(x, 99, 99, "0-0,50-50,57-65,99-99");
        addRange(x, 40, 70, "0-0,40-70,99-99");
        addRange(x, 1, 39, "0-70,99-99");
        addRange(x, 72, 98, "0-70,72-99");
        addRange(x, 71, 71, "0-99");
        addRange(x, 0, 99, "0-99");
        S.due("the other rule", "2>3:50-50/5", () -> Check.show(x, 0).split(";")[2]);
        S.sentence("Promise 4", "Returns the number of symbols of the guard.");
        S.due("all", 100, () -> x.addRange(0, 0, 5, 5));
        S.due("one more", 2, () -> x.addRange(0, 1, 0, 0));
        S.due("the same", 2, () -> x.addRange(0, 1, 50, 50));
        S.due("partly new", 4, () -> x.addRange(0, 1, 49, 51));
        S.due("more than are enabled", 100, () -> {
            x.addTerm(0, 1, true, 99);
            return x.addRange(0, 1, 0, 99);
        });
    }

    private static void addRange(TransducerBench x, int low, int high, String want) {
        x.addRange(0, 0, low, high);
        S.due(low + " to " + high, "0>1:" + want + "/1000", () -> Check.show(x, 0).split(";")[1]);
    }

    private static void addTerm() {
        S.sentence("Promise 5", "Appends a term to a rule.");
        TransducerBench x = Check.bench("0>1:5-6/;2>3:7/x");
        x.addTerm(0, 0, true, -5);
        S.due("an offset", "0;0>1:5-6/995;2>3:7-7/1000", () -> Check.show(x, 0));
        x.addTerm(0, 0, false, 95);
        S.due("a constant behind it", "0;0>1:5-6/995,95;2>3:7-7/1000", () -> Check.show(x, 0));
        x.addTerm(0, 0, false, 0);
        S.due("a constant 0", "0;0>1:5-6/995,95,0;2>3:7-7/1000", () -> Check.show(x, 0));
        x.addTerm(0, 1, true, 0);
        S.due("the other rule", "0;0>1:5-6/995,95,0;2>3:7-7/1000,1000", () -> Check.show(x, 0));
        x.addTerm(0, 0, true, -6);
        S.due("it is enabled for fewer then", 1, () -> x.rule(0, 0, 3));
        S.due("with the same guard", 2, () -> x.rule(0, 0, 2));
        S.sentence("Promise 5", "`isOffset`: true for an offset, false for a constant");
        for (int value = 0; value < 100; value++) {
            TransducerBench y = Check.bench("0>1:5-6/");
            y.addTerm(0, 0, true, value);
            y.addTerm(0, 0, false, value);
            y.addTerm(0, 0, true, -value);
            String want = (1000 + value) + "," + value + "," + (1000 - value);
            S.due("value " + value, "0;0>1:5-6/" + want, () -> Check.show(y, 0));
        }
        S.sentence("Promise 5", "Returns the number of terms of the rule.");
        S.due("five", 5, () -> x.addTerm(0, 0, false, 1));
        S.due("three", 3, () -> x.addTerm(0, 1, false, 1));
    }

    private static void sixTerms() {
        S.sentence("Promise 5", "Throws IllegalStateException if the rule has 6 terms");
        TransducerBench x = Check.bench("0>0:1/1,2,3,4,5;0>0:1/");
        S.due("it has 5", 6, () -> x.addTerm(0, 0, true, 0));
        S.due("it has 6", STATE, () -> x.addTerm(0, 0, true, 0));
        S.due("another one has none", 1, () -> x.addTerm(0, 1, true, 0));
        x.undo();
        x.undo();
        S.due("it has 5 again", 6, () -> x.addTerm(0, 0, false, 9));
        S.due("its terms", "0;0>0:1-1/1,2,3,4,5,9;0>0:1-1/", () -> Check.show(x, 0));
    }

    private static void removeRule() {
        S.sentence("Promise 6",
                "Removes a rule. The rules with higher numbers get numbers that are lower by 1.");
        String[] rules = {"0>1:1-1/", "1>2:2-2,4-4/1002", "2>3:3-3/3,1003", "3>4:4-4,6-6,8-8/4,4,4"};
        for (int removed = 0; removed < 4; removed++) {
            TransducerBench x = Check.bench("!6;0>1:1/;1>2:2,4/x+2;2>3:3/3,x+3;3>4:4,6,8/4,4,4");
            StringBuilder want = new StringBuilder("1000000");
            for (int i = 0; i < 4; i++) {
                want.append(i == removed ? "" : ";" + rules[i]);
            }
            x.removeRule(0, removed);
            S.due("rule " + removed, want.toString(), () -> Check.show(x, 0));
            x.undo();
            S.due("rule " + removed + " again", "1000000;" + String.join(";", rules), () -> Check.show(x, 0));
        }
        S.sentence("Promise 6", "Returns the number of rules that remain.");
        TransducerBench y = new TransducerBench();
        for (int i = 0; i < 40; i++) {
            y.addRule(0, 0, 0, i, i);
        }
        for (int left = 39; left >= 0; left--) {
            int want = left;
            S.due(left + " remain", want, () -> y.removeRule(0, want / 2));
        }
        S.due("none to remove", INDEX, () -> y.removeRule(0, 0));
    }

    private static void rules() {
        S.sentence("Promise 7", "Returns the number of rules of a transducer.");
        TransducerBench x = new TransducerBench();
        S.due("none", 0, () -> x.rules(0));
        for (int i = 0; i < 40; i++) {
            int count = i + 1;
            x.addRule(0, 5, 5, 7, 7);
            S.due("alike ones " + count, count, () -> x.rules(0));
        }
        S.due("of another slot", 0, () -> x.rules(1));
        S.due("of an empty guard none", 40, () -> x.restrict(0, 8, 8));
        S.due("none again", 0, () -> x.rules(0));
    }

    private static void finals() {
        S.sentence("Promise 8", "Returns the set of states, bit s for state s.");
        for (int state = 0; state < 12; state++) {
            TransducerBench x = new TransducerBench();
            int asked = state;
            x.setFinal(2, state, true);
            S.due("state " + state, 1 << state, () -> x.finals(2));
            x.setFinal(2, 11 - state, true);
            S.due("and another", (1 << state) | (1 << (11 - asked)), () -> x.finals(2));
        }
        TransducerBench y = Check.bench("!0;!1;!2;!3;!4;!5;!6;!7;!8;!9;!10;!11", "0>11:1/");
        S.due("all", 4095, () -> y.finals(0));
        S.due("none", 0, () -> y.finals(1));
    }

    private static void rule() {
        S.sentence("Promise 9", "0 the state from which it leads; 1 the state to which it leads; 2 the "
                + "number of symbols of the guard; 3 the number of symbols for which it is enabled; 4 the "
                + "number of terms; 5 the number of ranges: the maximal sequences of consecutive symbols in "
                + "the guard");
        numbers("0>0:0/", 0, 0, 1, 1, 0, 1);
        numbers("11>0:99/x", 11, 0, 1, 1, 1, 1);
        numbers("0>11:0-99/", 0, 11, 100, 100, 0, 1);
        numbers("5>6:0-99/x+99,x-99", 5, 6, 100, 0, 2, 1);
        numbers("5>6:0-99/1,2,3,4,5,x+1", 5, 6, 100, 99, 6, 1);
        numbers("7>7:1,3,5,7-9,11/x-3", 7, 7, 7, 6, 1, 5);
        numbers("7>7:0,99/x-1", 7, 7, 2, 1, 1, 2);
        numbers("7>7:62,63,64,65/", 7, 7, 4, 4, 0, 1);
        numbers("7>7:62,65/0,99", 7, 7, 2, 2, 2, 2);
        numbers("7>7:63,65/", 7, 7, 2, 2, 0, 2);
        numbers("7>7:60-63,64-70/x+30", 7, 7, 11, 10, 1, 1);
        numbers("1>2:10-20,15-30,31/0", 1, 2, 22, 22, 1, 1);
    }

    private static void numbers(String text, int... want) {
        TransducerBench x = Check.bench(text);
        for (int what = 0; what < 6; what++) {
            int asked = what;
            S.due(text + " asked for " + what, want[what], () -> x.rule(0, 0, asked));
        }
    }

    private static void ranges() {
        S.sentence("Promise 10", "Returns the lowest or the highest symbol of a range of a guard, as counted "
                + "by rule.");
        TransducerBench x = Check.bench("0>0:98/");
        for (int symbol = 0; symbol < 98; symbol += 2) {
            x.addRange(0, 0, symbol, symbol);
        }
        S.due("fifty ranges", 50, () -> x.rule(0, 0, 5));
        for (int i = 0; i < 50; i++) {
            int asked = i;
            S.due("low " + i, 2 * i, () -> x.range(0, 0, asked, false));
            S.due("high " + i, 2 * i, () -> x.range(0, 0, asked, true));
        }
        S.due("range 50", INDEX, () -> x.range(0, 0, 50, false));
        x.addRange(0, 0, 0, 98);
        S.due("one range, low", 0, () -> x.range(0, 0, 0, false));
        S.due("one range, high", 98, () -> x.range(0, 0, 0, true));
        S.due("range 1", INDEX, () -> x.range(0, 0, 1, false));
        S.due("the guard's, not only where it is enabled", 98, () -> {
            x.addTerm(0, 0, true, 50);
            return x.range(0, 0, 0, true);
        });
    }

    private static void range() {
        S.sentence("Promise 10", "`i`: the number of the range, from 0, in ascending order");
        TransducerBench x = Check.bench("0>0:99,60-66,0-1,3/;1>1:5-7/");
        int[][] want = {{0, 1}, {3, 3}, {60, 66}, {99, 99}};
        for (int i = 0; i < 4; i++) {
            int asked = i;
            S.due("low " + i, want[i][0], () -> x.range(0, 0, asked, false));
            S.due("high " + i, want[i][1], () -> x.range(0, 0, asked, true));
        }
        S.due("range 4", INDEX, () -> x.range(0, 0, 4, true));
        S.due("range -1", INDEX, () -> x.range(0, 0, -1, true));
        S.due("of the other rule, low", 5, () -> x.range(0, 1, 0, false));
        S.due("of the other rule, high", 7, () -> x.range(0, 1, 0, true));
        S.due("of the other rule, range 1", INDEX, () -> x.range(0, 1, 1, true));
        S.sentence("Promise 10", "`isHigh`: true for the highest symbol, false for the lowest one");
        TransducerBench y = Check.bench("0>0:63-64/;0>0:0-63/;0>0:64-99/;0>0:0-99/;0>0:62-65/");
        int[][] ends = {{63, 64}, {0, 63}, {64, 99}, {0, 99}, {62, 65}};
        for (int rule = 0; rule < 5; rule++) {
            int asked = rule;
            S.due("low of rule " + rule, ends[rule][0], () -> y.range(0, asked, 0, false));
            S.due("high of rule " + rule, ends[rule][1], () -> y.range(0, asked, 0, true));
        }
    }

    private static void term() {
        S.sentence("Promise 11", "Returns the constant, or 1000 plus the offset.");
        TransducerBench x = Check.bench("0>0:0/0,99,x-99,x,x+99,x-1;0>0:0/x+1;0>0:0/");
        int[] want = {0, 99, 901, 1000, 1099, 999};
        for (int i = 0; i < 6; i++) {
            int asked = i;
            S.due("term " + i, want[i], () -> x.term(0, 0, asked));
        }
        S.due("term 6", INDEX, () -> x.term(0, 0, 6));
        S.due("term -1", INDEX, () -> x.term(0, 0, -1));
        S.due("of another rule", 1001, () -> x.term(0, 1, 0));
        S.due("term 1 of another rule", INDEX, () -> x.term(0, 1, 1));
        S.due("term 0 of a rule without terms", INDEX, () -> x.term(0, 2, 0));
        S.due("of a rule that is not", INDEX, () -> x.term(0, 3, 0));
        S.due("of a slot that is not", ARGUMENT, () -> x.term(4, 0, 0));
    }

    private static void valueOf() {
        S.sentence("Promise 12", "Returns the value of a term of a rule for a symbol, whether the rule is "
                + "enabled for it or not.");
        TransducerBench x = Check.bench("0>0:50/x+1,x-1,5,x-99");
        S.due("never enabled", 0, () -> x.rule(0, 0, 3));
        S.due("in the guard", 51, () -> x.valueOf(0, 0, 0, 50));
        S.due("outside the guard", 1, () -> x.valueOf(0, 0, 0, 0));
        S.due("a constant", 5, () -> x.valueOf(0, 0, 2, 50));
        S.due("a constant outside the guard", 5, () -> x.valueOf(0, 0, 2, 99));
        S.sentence("Promise 12", "Returns the value, which may be out of the range of symbols.");
        S.due("100", 100, () -> x.valueOf(0, 0, 0, 99));
        S.due("-1", -1, () -> x.valueOf(0, 0, 1, 0));
        S.due("-99", -99, () -> x.valueOf(0, 0, 3, 0));
        S.due("-49", -49, () -> x.valueOf(0, 0, 3, 50));
        TransducerBench y = Check.bench("0>0:50/x+99");
        S.due("198", 198, () -> y.valueOf(0, 0, 0, 99));
        S.due("149", 149, () -> y.valueOf(0, 0, 0, 50));
    }
}
