/** Promise 35: taking changes back. */
public final class UndoTest {
    private static final Check CHECK = new Check();
    private static final Class<?> STATE = IllegalStateException.class;
    private static final String TEXT = "!1;0>1:1-5/x+1;1>0:9/x-2;5>5:5/x";

    private static TransducerBench bench;
    private static String[] before;

    private static void due(String what, Object want, Check.Call call) {
        CHECK.due(what, want, call);
    }

    public static void main(String[] args) {
        everyChange();
        changesOfNothing();
        noChanges();
        eight();
        between();
        otherThings();
        CHECK.end();
    }

    /** Makes a change of a slot and takes it back. */
    private static void there(String what, int slot, Check.Call change) {
        due("35: " + what + " was done", true, () -> {
            change.answer();
            return true;
        });
        due("35: " + what + " changed the slot", slot, () -> bench.undo());
        for (int i = 0; i < 4; i++) {
            int asked = i;
            due("35: " + what + " is taken back", before[i], () -> Check.show(bench, asked));
        }
    }

    private static void begin() {
        bench = Check.bench(TEXT, "!2;0>2:7/3", "", "!0");
        before = new String[4];
        for (int i = 0; i < 4; i++) {
            before[i] = Check.show(bench, i);
        }
    }

    private static void everyChange() {
        begin();
        there("setFinal", 0, () -> bench.setFinal(0, 0, true));
        there("addRule", 1, () -> bench.addRule(1, 0, 1, 5, 6));
        there("addRange", 0, () -> bench.addRange(0, 1, 60, 70));
        there("addTerm", 0, () -> bench.addTerm(0, 2, false, 6));
        there("removeRule", 0, () -> bench.removeRule(0, 0));
        Check.feed(bench, "!5;5>5:5/");
        there("parse", 3, () -> bench.parse(3));
        there("compose", 2, () -> bench.compose(0, 0, 2));
        there("compose into itself", 0, () -> bench.compose(0, 1, 0));
        there("invert", 3, () -> bench.invert(0, 3));
        there("invert into itself", 0, () -> bench.invert(0, 0));
        there("restrict", 0, () -> bench.restrict(0, 2, 3));
        there("trim", 0, () -> bench.trim(0));
        there("copy", 1, () -> bench.copy(0, 1));
    }

    private static void changesOfNothing() {
        begin();
        there("setFinal of nothing", 3, () -> bench.setFinal(3, 0, true));
        there("addRange of nothing", 0, () -> bench.addRange(0, 0, 2, 3));
        there("trim of nothing", 2, () -> bench.trim(2));
        there("restrict of nothing", 1, () -> bench.restrict(1, 0, 99));
        there("copy of nothing", 2, () -> bench.copy(2, 2));
        there("parse of nothing", 2, () -> bench.parse(2));
        there("invert of nothing", 2, () -> bench.invert(2, 2));
        there("compose of nothing", 2, () -> bench.compose(2, 2, 2));
    }

    private static void noChanges() {
        TransducerBench x = new TransducerBench();
        Check.feed(x, "!");
        due("35: an error", -101, () -> x.parse(0));
        Check.outcome(() -> x.setFinal(0, 12, true));
        Check.outcome(() -> x.addRule(0, 0, 0, 1, 0));
        Check.outcome(() -> x.addRange(0, 0, 0, 1));
        Check.outcome(() -> x.addTerm(0, 0, true, 0));
        Check.outcome(() -> x.removeRule(0, 0));
        Check.outcome(() -> x.restrict(0, 1, 0));
        Check.outcome(() -> x.compose(0, 0, 4));
        x.push(5);
        x.clearWord();
        x.useResult();
        due("35: there is no change", STATE, () -> x.undo());
        Check.read(x, 1, "!0;0>0:1/1,1,1");
        due("35: too many terms", UnsupportedOperationException.class, () -> x.compose(1, 1, 0));
        due("35: three terms", STATE, () -> x.invert(1, 0));
        due("35: the only change is the text", 1, () -> x.undo());
        due("35: which is gone", "0", () -> Check.show(x, 1));
        due("35: there is no change then", STATE, () -> x.undo());
    }

    private static void eight() {
        TransducerBench x = new TransducerBench();
        for (int i = 0; i < 10; i++) {
            x.addRule(i % 3, i, i, i, i);
        }
        for (int i = 9; i >= 2; i--) {
            int number = i;
            due("35: change " + i, number % 3, () -> x.undo());
        }
        due("35: older changes are gone", STATE, () -> x.undo());
        due("35: their rules are there", 1, () -> x.rules(0));
        due("35: and there", 1, () -> x.rules(1));
        due("35: not here", 0, () -> x.rules(2));
    }

    private static void between() {
        TransducerBench x = new TransducerBench();
        for (int i = 0; i < 12; i++) {
            x.addRule(0, 0, 0, i, i);
        }
        for (int i = 0; i < 3; i++) {
            x.undo();
        }
        due("35: nine are left", 9, () -> x.rules(0));
        for (int i = 0; i < 2; i++) {
            x.setFinal(1, i, true);
        }
        due("35: the later ones first", 1, () -> x.undo());
        due("35: both", 1, () -> x.undo());
        for (int i = 8; i >= 4; i--) {
            int left = i;
            due("35: then the earlier ones", 0, () -> x.undo());
            due("35: one by one", left, () -> x.rules(0));
        }
        due("35: eight in all", STATE, () -> x.undo());
    }

    private static void otherThings() {
        TransducerBench x = Check.bench("!0;0>0:2/");
        x.push(2);
        x.addTerm(0, 0, true, 5);
        x.transduce(0, true);
        Check.feed(x, "!1");
        due("35: the term", 0, () -> x.undo());
        due("35: the word stays", 2, () -> x.symbol(0));
        due("35: the result stays", 7, () -> x.result(0));
        due("35: the buffer stays", 3, () -> x.feed('1'));
        due("35: a new result", 0, () -> x.transduce(0, true));
    }
}
