import java.util.function.Function;
import java.util.function.Supplier;

/**
 * All that calls can tell of a bench's state, in parts: a look at a part may change the bench, so every
 * look is at a bench of its own, which also keeps below the 512 calls that the document allows.
 */
final class Views {
    private static final String[] PARTS =
            {"slot 0", "slot 1", "slot 2", "slot 3", "word", "result", "history", "buffer"};

    private Views() {
    }

    /** The names of the parts that the call changes, in the order of PARTS, or "nothing". */
    static String touched(Supplier<TransducerBench> maker, Function<TransducerBench, Object> call) {
        StringBuilder names = new StringBuilder();
        for (int part = 0; part < PARTS.length; part++) {
            TransducerBench called = maker.get();
            Check.outcome(() -> call.apply(called));
            if (!look(called, part).equals(look(maker.get(), part))) {
                names.append(names.length() > 0 ? ", " : "").append(PARTS[part]);
            }
        }
        return names.length() > 0 ? names.toString() : "nothing";
    }

    private static String look(TransducerBench bench, int part) {
        switch (part) {
            case 4:
                return symbols(i -> bench.symbol(i), 10);
            case 5:
                return symbols(i -> bench.result(i), 60);
            case 6:
                return history(bench);
            case 7:
                return buffer(bench);
            default:
                return Check.show(bench, part);
        }
    }

    /** One symbol more is asked than there can be. */
    private static String symbols(Function<Integer, Integer> at, int most) {
        StringBuilder text = new StringBuilder();
        for (int i = 0; i <= most; i++) {
            int asked = i;
            text.append(' ').append(Check.outcome(() -> at.apply(asked)));
        }
        return text.toString();
    }

    /** One change more is taken back than can be. */
    private static String history(TransducerBench bench) {
        StringBuilder text = new StringBuilder();
        for (int i = 0; i <= 8; i++) {
            Object slot = Check.outcome(() -> bench.undo());
            text.append(' ').append(slot);
            if (slot instanceof Integer) {
                text.append(outline(bench, (Integer) slot));
            }
        }
        return text.toString();
    }

    /** Less than show tells, as the looks at all changes must be few calls. */
    private static String outline(TransducerBench bench, int slot) {
        StringBuilder text = new StringBuilder(" ");
        int rules = bench.rules(slot);
        text.append(bench.finals(slot)).append(' ').append(rules);
        if (rules > 0) {
            text.append(' ').append(bench.rule(slot, rules - 1, 2));
            text.append(' ').append(bench.rule(slot, 0, 4));
        }
        return text.toString();
    }

    /** The texts that the benches hold are correct; here one item more is put behind them. */
    private static String buffer(TransducerBench bench) {
        StringBuilder text = new StringBuilder();
        for (char letter : ";!7".toCharArray()) {
            text.append(' ').append(Check.outcome(() -> bench.feed(letter)));
        }
        text.append(' ').append(Check.outcome(() -> bench.parse(2)));
        return text.append(' ').append(Check.show(bench, 2)).toString();
    }

    /**
     * A bench with something of everything. Slots 0 and 3 are functional, slots 1 and 2 are not; slot 1
     * is the only one that has an output for the word; only slots 0 and 3 can be inverted, and slot 3
     * has no final state. More than eight changes were made.
     */
    static TransducerBench ordinary() {
        TransducerBench bench = new TransducerBench();
        Check.read(bench, 0, "!1;0>1:10-20/x+3;1>1:5-9,60-70/x-5");
        Check.read(bench, 1, "!0;0>0:10-20/7,8,x;0>0:15-99/x");
        Check.read(bench, 2, "!0;0>0:1/1,2,3;0>0:1/4");
        bench.addRule(3, 2, 3, 4, 5);
        bench.addTerm(3, 0, true, 6);
        bench.addRange(1, 1, 12, 12);
        bench.setFinal(2, 7, true);
        bench.addRule(0, 1, 0, 8, 8);
        bench.addTerm(0, 2, true, 0);
        bench.setFinal(0, 3, true);
        Check.word(bench, 12, 50);
        bench.transduce(1, false);
        Check.feed(bench, "!5;0>0:1/");
        return bench;
    }

    /**
     * A bench that is full: 40 rules in slot 3, of which the first one has 6 terms, 10 symbols in the
     * word, 60 in the result, and 120 characters in the buffer.
     */
    static TransducerBench full() {
        TransducerBench bench = new TransducerBench();
        for (int i = 0; i < 40; i++) {
            bench.addRule(3, 0, 0, i, i);
        }
        for (int k = 0; k < 6; k++) {
            bench.addTerm(3, 0, true, k);
        }
        bench.setFinal(3, 0, true);
        Check.word(bench, 0, 0, 0, 0, 0, 0, 0, 0, 0, 0);
        bench.transduce(3, false);
        Check.feed(bench, "00>00:0/");
        for (int i = 0; i < 16; i++) {
            Check.feed(bench, ";0>0:0/");
        }
        return bench;
    }
}
