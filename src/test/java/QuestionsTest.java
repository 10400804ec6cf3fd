/** Promises 26 to 29: determinism, functionality, equivalence and containment. */
public final class QuestionsTest {
    private static final Check CHECK = new Check();
    private static final Class<?> ARGUMENT = IllegalArgumentException.class;
    private static final Class<?> STATE = IllegalStateException.class;
    private static final int[] NO_SLOTS = {-1, 4, Integer.MIN_VALUE, Integer.MAX_VALUE};

    private static void due(String what, Object want, Check.Call call) {
        CHECK.due(what, want, call);
    }

    public static void main(String[] args) {
        isDeterministic();
        isFunctional();
        longDelays();
        coprimeCycles();
        isEquivalent();
        isWithin();
        CHECK.end();
    }

    private static void deterministic(boolean want, String text) {
        due("26: " + text, want, () -> Check.bench(text).isDeterministic(0));
    }

    private static void isDeterministic() {
        deterministic(true, "");
        deterministic(true, "0>1:1-5/;0>2:6-9/;1>1:1-9/");
        deterministic(false, "0>1:1-5/;0>2:5-9/");
        deterministic(false, "0>1:1/x;0>1:1/x");
        deterministic(false, "7>1:1/x;7>1:1/x");
        deterministic(true, "0>1:95-99/x+1;0>1:99/");
        deterministic(false, "0>1:95-99/x+1;0>1:98/");
        deterministic(true, "0>1:0-9/x-5;0>2:0-9/x+95");
        deterministic(false, "0>1:0-9/x-4;0>2:0-9/x+95");
        deterministic(false, "0>0:63-64/;1>0:1/;0>0:64/");
        for (int slot : NO_SLOTS) {
            due("26: slot " + slot, ARGUMENT, () -> new TransducerBench().isDeterministic(slot));
        }
    }

    private static void functional(boolean want, String text) {
        due("27: " + text, want, () -> Check.bench(text).isFunctional(0));
    }

    private static void isFunctional() {
        functional(true, "");
        functional(true, "!1;0>1:1/5;0>1:1/5");
        functional(false, "!1;0>1:1/5;0>1:1/6");
        functional(true, "0>1:1/5;0>1:1/6");
        functional(true, "!1;0>1:1/5;0>1:2/6");
        functional(true, "!1;0>1:1/5;0>2:1/6;3>1:1/");
        functional(true, "!3;0>1:1/5;0>2:1/5,6;1>3:2/6,7;2>3:2/7");
        functional(false, "!3;0>1:1/5;0>2:1/5,6;1>3:2/6,7;2>3:2/8");
        functional(false, "!3;0>1:1/5;0>2:1/5,6;1>3:2/7,7;2>3:2/7");
        functional(false, "!3;!1;!2;0>1:1/5;0>2:1/5,6;1>3:2/6,7;2>3:2/7");
        functional(true, "!1;0>1:3/x;0>1:3/3");
        functional(false, "!1;0>1:3-4/x;0>1:3-4/3");
        functional(true, "!1;0>1:3-4/x,x;0>1:3/3,3;0>1:4/x,4");
        functional(false, "!1;0>1:1/;0>1:1/0");
        functional(true, "!1;0>1:99/x+1;0>1:99/5");
        functional(false, "!1;!2;0>1:1/7;0>2:1/7;1>1:1/7;2>2:1/7,7");
        functional(true, "!1;!2;0>1:1/7;0>2:1/7;1>1:1/7;2>2:2/7,7");
        functional(true, "!0;!2;0>1:1/7;1>0:1/7,7;0>2:1/7;2>3:1/7,7;3>2:1/7;1>9:1/8");
        functional(false, "!0;!2;0>1:1/7;1>0:1/7;0>2:1/7;2>3:1/7,7;3>2:1/7");
        functional(false, "!2;0>0:1/8;0>1:1/8;1>1:1/9;1>2:2/;0>2:2/");
        functional(true, "!2;0>0:1/8;0>1:1/8;1>1:1/8;1>2:2/;0>2:2/");
        functional(false, "!3;0>1:1-2/x;0>2:1-2/;1>3:3/;2>3:3/1");
        functional(true, "!3;0>1:1/x;0>2:1-2/;1>3:3/;2>3:3/1");
        TransducerBench x = Check.bench("!1;0>2:1/5;0>3:1/6;2>1:1/;3>1:1/");
        due("27: both ways accept", false, () -> x.isFunctional(0));
        x.removeRule(0, 3);
        due("27: a rule that is removed is no way", true, () -> x.isFunctional(0));
        for (int slot : NO_SLOTS) {
            due("27: slot " + slot, ARGUMENT, () -> new TransducerBench().isFunctional(slot));
        }
    }

    /** One way puts out six symbols a step at once, the other one all the later. */
    private static void longDelays() {
        TransducerBench x = new TransducerBench();
        for (int i = 0; i < 5; i++) {
            addRow(x, i, i + 1, 6);
            addRow(x, i == 0 ? 0 : i + 5, i + 6, 0);
        }
        for (int i = 5; i < 10; i++) {
            x.addRule(0, i == 5 ? 5 : 11, 11, 50 + i, 50 + i);
        }
        x.setFinal(0, 11, true);
        due("27: the slow way does not accept", true, () -> x.isFunctional(0));
        x.addRule(0, 10, 11, 55, 55);
        due("27: the slow way lacks its symbols", false, () -> x.isFunctional(0));
        due("28: such a one has no equivalent", STATE, () -> x.isEquivalent(0, 1));
        due("28: in either place", STATE, () -> x.isEquivalent(1, 0));
    }

    /** Two cycles of five and of six states, of which only the first puts anything out. */
    private static void coprimeCycles() {
        TransducerBench x = new TransducerBench();
        for (int i = 0; i < 5; i++) {
            addRow(x, i, i + 1, 6);
        }
        addRow(x, 5, 1, 6);
        addRow(x, 0, 6, 0);
        for (int i = 6; i < 11; i++) {
            addRow(x, i, i + 1, 0);
        }
        x.setFinal(0, 5, true);
        due("27: the second cycle does not accept", true, () -> x.isFunctional(0));
        x.setFinal(0, 11, true);
        due("27: it ends", true, () -> x.isFunctional(0));
        addRow(x, 11, 6, 0);
        due("27: after thirty symbols both accept", false, () -> x.isFunctional(0));
        x.setFinal(0, 5, false);
        due("27: the first cycle does not accept", true, () -> x.isFunctional(0));
    }

    private static void addRow(TransducerBench x, int from, int to, int terms) {
        int rule = x.addRule(0, from, to, 1, 1);
        for (int k = 0; k < terms; k++) {
            x.addTerm(0, rule, true, k);
        }
    }

    private static void equivalent(Object want, String one, String other) {
        due("28: " + one + " and " + other, want, () -> Check.bench(one, other).isEquivalent(0, 1));
        due("28: " + other + " and " + one, want, () -> Check.bench(one, other).isEquivalent(1, 0));
    }

    private static void isEquivalent() {
        equivalent(true, "", "");
        equivalent(true, "", "0>0:1/5;!1");
        equivalent(false, "", "!0");
        equivalent(true, "!0;0>0:1-9/x", "!0;0>0:1-4/x;0>0:5-9/x");
        equivalent(false, "!0;0>0:1-9/x", "!0;0>0:1-8/x");
        equivalent(false, "!0;0>0:1-9/x", "!0;0>0:1-9/5");
        equivalent(true, "!0;0>0:5/x", "!0;0>0:5/5");
        equivalent(true, "!2;0>1:1/5,6;1>2:2/7", "!2;0>1:1/5;1>2:2/6,7");
        equivalent(false, "!2;0>1:1/5,6;1>2:2/7", "!2;0>1:1/5;1>2:2/7,6");
        equivalent(true, "!2;0>1:1/5;1>1:1/5;1>2:2/", "!2;0>1:1/;1>1:1/5;1>2:2/5");
        equivalent(false, "!2;0>1:1/5;1>1:1/5;1>2:2/", "!2;0>1:1/;1>1:1/5;1>2:2/");
        equivalent(STATE, "!1;0>1:1/5;0>1:1/6", "!1;0>1:1/5");
        equivalent(STATE, "!1;0>1:1/5;0>1:1/6", "!1;0>1:1/5;0>1:1/6");
        equivalent(true, "!1;0>1:90-99/x+5", "!1;0>1:90-94/x+5");
        TransducerBench x = Check.bench("!1;0>1:1/5;0>1:1/6", "!1;0>1:1/5");
        due("28: with itself", true, () -> x.isEquivalent(1, 1));
        due("28: with itself, not functional", STATE, () -> x.isEquivalent(0, 0));
        due("28: the slot comes first", ARGUMENT, () -> x.isEquivalent(0, 4));
        for (int slot : NO_SLOTS) {
            due("28: one " + slot, ARGUMENT, () -> x.isEquivalent(slot, 1));
            due("28: other " + slot, ARGUMENT, () -> x.isEquivalent(1, slot));
        }
    }

    private static void within(boolean want, String one, String other) {
        due("29: " + one + " in " + other, want, () -> Check.bench(one, other).isWithin(0, 1));
    }

    private static void isWithin() {
        within(true, "", "");
        within(true, "0>0:1/;0>1:2/", "");
        within(false, "!0", "");
        within(true, "", "!0");
        within(true, "!0;0>0:1-5/x", "!0;0>0:1-3/;0>0:4-5/7");
        within(false, "!0;0>0:1-6/x", "!0;0>0:1-3/;0>0:4-5/7");
        within(true, "!2;0>1:1/;1>2:1-2/", "!3;0>1:1/;0>2:1/;1>3:1/;2>3:2/");
        within(false, "!2;0>1:1/;1>2:1-3/", "!3;0>1:1/;0>2:1/;1>3:1/;2>3:2/");
        within(true, "!1;0>1:1/5;0>1:1/6", "!1;0>1:1/");
        within(true, "!0;0>1:1/;1>0:1/", "!0;0>0:1/");
        within(false, "!0;0>0:1/", "!0;0>1:1/;1>0:1/");
        within(true, "!1;0>1:0-9/x-5", "!1;0>1:5-9/");
        within(false, "!1;0>1:5-9/", "!1;0>1:0-9/x-6");
        within(true, "!3;0>0:1-2/;0>1:1/;1>2:1-2/;2>3:1-2/", "!3;0>0:1-2/;0>1:1/;1>2:1-2/;2>3:1-2/");
        within(false, "!3;0>0:1-2/;0>1:1-2/;1>2:1-2/;2>3:1-2/", "!3;0>0:1-2/;0>1:1/;1>2:1-2/;2>3:1-2/");
        within(false, "!2;0>0:1/;0>1:2/;1>2:3/;1>0:4/", "!2;0>0:1/;0>1:2/;1>2:3/;1>3:4/;3>3:1/;3>4:2/");
        TransducerBench x = Check.bench("!1;0>1:1/5;0>1:1/6");
        due("29: in itself, functional or not", true, () -> x.isWithin(0, 0));
        for (int slot : NO_SLOTS) {
            due("29: one " + slot, ARGUMENT, () -> x.isWithin(slot, 1));
            due("29: other " + slot, ARGUMENT, () -> x.isWithin(1, slot));
        }
    }
}
