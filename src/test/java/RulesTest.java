/** Promises 1 to 12: a new object, and the rules of transducers. */
public final class RulesTest {
    private static final Check CHECK = new Check();
    private static final Class<?> ARGUMENT = IllegalArgumentException.class;
    private static final Class<?> INDEX = IndexOutOfBoundsException.class;
    private static final Class<?> STATE = IllegalStateException.class;
    private static final int[] NO_SLOTS = {-1, 4, Integer.MIN_VALUE, Integer.MAX_VALUE};

    private static void due(String what, Object want, Check.Call call) {
        CHECK.due(what, want, call);
    }

    public static void main(String[] args) {
        newObject();
        setFinal();
        addRule();
        addRange();
        addTerm();
        removeRule();
        rulesAndFinals();
        rule();
        range();
        term();
        valueOf();
        CHECK.end();
    }

    private static void newObject() {
        TransducerBench x = new TransducerBench();
        for (int slot = 0; slot < 4; slot++) {
            int asked = slot;
            due("1: rules of a new object", 0, () -> x.rules(asked));
            due("1: finals of a new object", 0, () -> x.finals(asked));
            due("1: runs of a new object", 0L, () -> x.runs(asked));
        }
        due("1: word of a new object", INDEX, () -> x.symbol(0));
        due("1: result of a new object", INDEX, () -> x.result(0));
        due("1: undo of a new object", STATE, () -> x.undo());
        due("1: buffer of a new object", 1, () -> x.feed('!'));
    }

    private static void setFinal() {
        TransducerBench x = new TransducerBench();
        due("2: at first not final", false, () -> x.setFinal(3, 11, true));
        due("2: final then", true, () -> x.setFinal(3, 11, true));
        due("2: finals", 1 << 11, () -> x.finals(3));
        due("2: was final", true, () -> x.setFinal(3, 11, false));
        due("2: not final any more", false, () -> x.setFinal(3, 11, false));
        due("2: no finals", 0, () -> x.finals(3));
        for (int slot : NO_SLOTS) {
            due("2: slot " + slot, ARGUMENT, () -> x.setFinal(slot, 0, true));
        }
        due("2: state -1", ARGUMENT, () -> x.setFinal(0, -1, true));
        due("2: state 12", ARGUMENT, () -> x.setFinal(0, 12, true));
        due("2: state far off", ARGUMENT, () -> x.setFinal(0, Integer.MIN_VALUE, false));
    }

    private static void addRule() {
        TransducerBench x = new TransducerBench();
        for (int slot : NO_SLOTS) {
            due("3: slot " + slot, ARGUMENT, () -> x.addRule(slot, 0, 0, 0, 0));
        }
        due("3: from -1", ARGUMENT, () -> x.addRule(0, -1, 0, 0, 0));
        due("3: from 12", ARGUMENT, () -> x.addRule(0, 12, 0, 0, 0));
        due("3: to -1", ARGUMENT, () -> x.addRule(0, 0, -1, 0, 0));
        due("3: to 12", ARGUMENT, () -> x.addRule(0, 0, 12, 0, 0));
        due("3: low -1", ARGUMENT, () -> x.addRule(0, 0, 0, -1, 0));
        due("3: high 100", ARGUMENT, () -> x.addRule(0, 0, 0, 0, 100));
        due("3: low 100", ARGUMENT, () -> x.addRule(0, 0, 0, 100, 100));
        due("3: high below low", ARGUMENT, () -> x.addRule(0, 0, 0, 6, 5));
        due("3: no rule was added", 0, () -> x.rules(0));
        due("3: the first rule", 0, () -> x.addRule(0, 11, 10, 0, 99));
        due("3: the first rule's looks", "0;11>10:0-99/", () -> Check.show(x, 0));
        for (int i = 1; i < 40; i++) {
            int number = i;
            due("3: rule " + i, number, () -> x.addRule(0, 0, 0, number, number));
        }
        due("3: rule 40", STATE, () -> x.addRule(0, 0, 0, 0, 0));
        due("3: rule 40 that is wrong too", ARGUMENT, () -> x.addRule(0, 0, 0, 1, 0));
        due("3: 40 rules", 40, () -> x.rules(0));
        due("3: another slot has room", 0, () -> x.addRule(1, 0, 0, 63, 64));
        due("3: over the middle", "0;0>0:63-64/", () -> Check.show(x, 1));
    }

    private static void addRange() {
        TransducerBench x = Check.bench("0>1:10-20/x");
        due("4: apart", 16, () -> x.addRange(0, 0, 60, 64));
        due("4: there already", 16, () -> x.addRange(0, 0, 12, 13));
        due("4: overlapping", 21, () -> x.addRange(0, 0, 62, 69));
        due("4: in between", 22, () -> x.addRange(0, 0, 21, 21));
        due("4: looks", "0;0>1:10-21,60-69/1000", () -> Check.show(x, 0));
        due("4: all", 100, () -> x.addRange(0, 0, 0, 99));
        due("4: slot", ARGUMENT, () -> x.addRange(4, 0, 0, 0));
        due("4: slot before rule", ARGUMENT, () -> x.addRange(-1, 7, 0, 0));
        due("4: low", ARGUMENT, () -> x.addRange(0, 0, -1, 5));
        due("4: high", ARGUMENT, () -> x.addRange(0, 0, 5, 100));
        due("4: high below low", ARGUMENT, () -> x.addRange(0, 0, 5, 4));
        due("4: symbols before rule", ARGUMENT, () -> x.addRange(0, 9, 5, 4));
        due("4: rule 1", INDEX, () -> x.addRange(0, 1, 5, 6));
        due("4: rule -1", INDEX, () -> x.addRange(0, -1, 5, 6));
        due("4: rule of an empty slot", INDEX, () -> x.addRange(1, 0, 5, 6));
    }

    private static void addTerm() {
        TransducerBench x = Check.bench("0>1:10-20/");
        due("5: constant 0", 1, () -> x.addTerm(0, 0, false, 0));
        due("5: constant 99", 2, () -> x.addTerm(0, 0, false, 99));
        due("5: offset -99", 3, () -> x.addTerm(0, 0, true, -99));
        due("5: offset 99", 4, () -> x.addTerm(0, 0, true, 99));
        due("5: offset 0", 5, () -> x.addTerm(0, 0, true, 0));
        due("5: constant -1", ARGUMENT, () -> x.addTerm(0, 0, false, -1));
        due("5: constant 100", ARGUMENT, () -> x.addTerm(0, 0, false, 100));
        due("5: offset -100", ARGUMENT, () -> x.addTerm(0, 0, true, -100));
        due("5: offset 100", ARGUMENT, () -> x.addTerm(0, 0, true, 100));
        due("5: slot", ARGUMENT, () -> x.addTerm(4, 0, true, 0));
        due("5: value before rule", ARGUMENT, () -> x.addTerm(0, 1, true, 100));
        due("5: rule", INDEX, () -> x.addTerm(0, 1, true, 0));
        due("5: rule -1", INDEX, () -> x.addTerm(0, -1, true, 0));
        due("5: the sixth", 6, () -> x.addTerm(0, 0, false, 5));
        due("5: the seventh", STATE, () -> x.addTerm(0, 0, false, 5));
        due("5: the seventh with a wrong value", ARGUMENT, () -> x.addTerm(0, 0, false, 100));
        due("5: looks", "0;0>1:10-20/0,99,901,1099,1000,5", () -> Check.show(x, 0));
    }

    private static void removeRule() {
        TransducerBench x = Check.bench("!3;0>1:1/;0>2:2/x;0>3:3/5;0>4:4/");
        due("6: slot", ARGUMENT, () -> x.removeRule(4, 9));
        due("6: rule 4", INDEX, () -> x.removeRule(0, 4));
        due("6: rule -1", INDEX, () -> x.removeRule(0, -1));
        due("6: rule 1", 3, () -> x.removeRule(0, 1));
        due("6: looks", "1000;0>1:1-1/;0>3:3-3/5;0>4:4-4/", () -> Check.show(x, 0));
        due("6: the last", 2, () -> x.removeRule(0, 2));
        due("6: the first", 1, () -> x.removeRule(0, 0));
        due("6: looks then", "1000;0>3:3-3/5", () -> Check.show(x, 0));
        due("6: a new rule is without terms", 1, () -> x.addRule(0, 5, 6, 7, 8));
        due("6: looks with it", "1000;0>3:3-3/5;5>6:7-8/", () -> Check.show(x, 0));
        due("6: and out", 1, () -> x.removeRule(0, 0));
        due("6: and the last one out", 0, () -> x.removeRule(0, 0));
        due("6: none is left", INDEX, () -> x.removeRule(0, 0));
    }

    private static void rulesAndFinals() {
        TransducerBench x = Check.bench("!0;!5;!11;0>0:1/;0>0:1/", "");
        due("7: alike rules count", 2, () -> x.rules(0));
        due("7: none", 0, () -> x.rules(1));
        due("8: bits", 1 + 32 + 2048, () -> x.finals(0));
        due("8: none", 0, () -> x.finals(1));
        for (int slot : NO_SLOTS) {
            due("7: slot " + slot, ARGUMENT, () -> x.rules(slot));
            due("8: slot " + slot, ARGUMENT, () -> x.finals(slot));
        }
    }

    private static void rule() {
        TransducerBench x = Check.bench("3>4:0-9,11,90-99/x+5,x-3,7");
        int[] want = {3, 4, 21, 13, 3, 3};
        for (int what = 0; what < 6; what++) {
            int asked = what;
            due("9: what " + what, want[what], () -> x.rule(0, 0, asked));
        }
        due("9: what -1", ARGUMENT, () -> x.rule(0, 0, -1));
        due("9: what 6", ARGUMENT, () -> x.rule(0, 0, 6));
        due("9: what before rule", ARGUMENT, () -> x.rule(0, 1, 6));
        due("9: slot", ARGUMENT, () -> x.rule(-1, 0, 0));
        due("9: rule 1", INDEX, () -> x.rule(0, 1, 0));
        due("9: rule -1", INDEX, () -> x.rule(0, -1, 0));
        TransducerBench never = Check.bench("0>0:0-99/x+99,x-99;0>0:0/x+99;0>0:99/x-99;0>0:1/x-2");
        due("9: enabled for nothing", 0, () -> never.rule(0, 0, 3));
        due("9: though the guard is full", 100, () -> never.rule(0, 0, 2));
        due("9: the farthest offset up", 1, () -> never.rule(0, 1, 3));
        due("9: the farthest offset down", 1, () -> never.rule(0, 2, 3));
        due("9: below 0", 0, () -> never.rule(0, 3, 3));
        TransducerBench odd = new TransducerBench();
        odd.addRule(0, 0, 0, 1, 1);
        for (int symbol = 3; symbol < 100; symbol += 2) {
            odd.addRange(0, 0, symbol, symbol);
        }
        due("9: fifty ranges", 50, () -> odd.rule(0, 0, 5));
        due("10: the last of fifty", 99, () -> odd.range(0, 0, 49, false));
        due("10: the one after 63", 65, () -> odd.range(0, 0, 32, true));
    }

    private static void range() {
        TransducerBench x = Check.bench("3>4:90-99,0-9,11,60-70/x+99");
        int[][] want = {{0, 9}, {11, 11}, {60, 70}, {90, 99}};
        for (int i = 0; i < want.length; i++) {
            int asked = i;
            due("10: low " + i, want[i][0], () -> x.range(0, 0, asked, false));
            due("10: high " + i, want[i][1], () -> x.range(0, 0, asked, true));
        }
        due("10: range 4", INDEX, () -> x.range(0, 0, 4, true));
        due("10: range -1", INDEX, () -> x.range(0, 0, -1, false));
        due("10: range far off", INDEX, () -> x.range(0, 0, Integer.MAX_VALUE, false));
        due("10: rule 1", INDEX, () -> x.range(0, 1, 0, false));
        due("10: slot", ARGUMENT, () -> x.range(4, 1, 9, false));
    }

    private static void term() {
        TransducerBench x = Check.bench("3>4:0-9/99,x,x-99,x+99,0");
        int[] want = {99, 1000, 901, 1099, 0};
        for (int i = 0; i < want.length; i++) {
            int asked = i;
            due("11: term " + i, want[i], () -> x.term(0, 0, asked));
        }
        due("11: term 5", INDEX, () -> x.term(0, 0, 5));
        due("11: term -1", INDEX, () -> x.term(0, 0, -1));
        due("11: rule 1", INDEX, () -> x.term(0, 1, 0));
        due("11: slot", ARGUMENT, () -> x.term(-1, 1, 9));
    }

    private static void valueOf() {
        TransducerBench x = Check.bench("3>4:10-20/99,x,x-99,x+99,x+5");
        due("12: constant", 99, () -> x.valueOf(0, 0, 0, 12));
        due("12: constant outside the guard", 99, () -> x.valueOf(0, 0, 0, 0));
        due("12: offset 0", 12, () -> x.valueOf(0, 0, 1, 12));
        due("12: below all symbols", -99, () -> x.valueOf(0, 0, 2, 0));
        due("12: above all symbols", 198, () -> x.valueOf(0, 0, 3, 99));
        due("12: outside the guard", 35, () -> x.valueOf(0, 0, 4, 30));
        due("12: symbol -1", ARGUMENT, () -> x.valueOf(0, 0, 0, -1));
        due("12: symbol 100", ARGUMENT, () -> x.valueOf(0, 0, 0, 100));
        due("12: symbol before rule", ARGUMENT, () -> x.valueOf(0, 8, 0, 100));
        due("12: slot", ARGUMENT, () -> x.valueOf(4, 0, 0, 0));
        due("12: rule 1", INDEX, () -> x.valueOf(0, 1, 0, 0));
        due("12: term 5", INDEX, () -> x.valueOf(0, 0, 5, 0));
        due("12: term -1", INDEX, () -> x.valueOf(0, 0, -1, 0));
    }
}
