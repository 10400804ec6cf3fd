/** What the tests of the project share: it counts the answers that are not due. */
final class Check {
    interface Call {
        Object answer();
    }

    private int wrong;
    private int asked;

    /** The answer is due; an exception is due by its class. */
    void due(String what, Object want, Call call) {
        Object got = outcome(call);
        asked++;
        if (!want.equals(got)) {
            wrong++;
            System.out.println(what + " answered " + got + ", due is " + want);
        }
    }

    /** The answer of a call, or the class of what it throws. */
    static Object outcome(Call call) {
        try {
            return call.answer();
        } catch (RuntimeException thrown) {
            return thrown.getClass();
        }
    }

    static void feed(TransducerBench bench, String text) {
        for (int i = 0; i < text.length(); i++) {
            bench.feed(text.charAt(i));
        }
    }

    /** Reads the text into the slot. */
    static void read(TransducerBench bench, int slot, String text) {
        feed(bench, text);
        int answer = bench.parse(slot);
        if (answer < 0) {
            throw new IllegalStateException("the test's own text is wrong: " + text);
        }
    }

    static TransducerBench bench(String... texts) {
        TransducerBench bench = new TransducerBench();
        for (int i = 0; i < texts.length; i++) {
            read(bench, i, texts[i]);
        }
        return bench;
    }

    static void word(TransducerBench bench, int... symbols) {
        bench.clearWord();
        for (int symbol : symbols) {
            bench.push(symbol);
        }
    }

    /** All that can be asked about a transducer's rules, as a text. */
    static String show(TransducerBench bench, int slot) {
        StringBuilder text = new StringBuilder();
        text.append(Integer.toBinaryString(bench.finals(slot)));
        int rules = bench.rules(slot);
        for (int rule = 0; rule < rules; rule++) {
            text.append(';').append(bench.rule(slot, rule, 0));
            text.append('>').append(bench.rule(slot, rule, 1)).append(':');
            int ranges = bench.rule(slot, rule, 5);
            for (int i = 0; i < ranges; i++) {
                text.append(i > 0 ? "," : "").append(bench.range(slot, rule, i, false));
                text.append('-').append(bench.range(slot, rule, i, true));
            }
            text.append('/');
            int terms = bench.rule(slot, rule, 4);
            for (int i = 0; i < terms; i++) {
                text.append(i > 0 ? "," : "").append(bench.term(slot, rule, i));
            }
        }
        return text.toString();
    }

    /** The output that transduce finds, as a text with its length before it. */
    static String output(TransducerBench bench, int slot, boolean isLast) {
        int length = bench.transduce(slot, isLast);
        return length + ": " + showResult(bench, length);
    }

    static String showResult(TransducerBench bench, int length) {
        StringBuilder text = new StringBuilder();
        for (int i = 0; i < length; i++) {
            text.append(i > 0 ? " " : "").append(bench.result(i));
        }
        return text.toString();
    }

    void end() {
        System.out.println(asked + " answers looked at, " + wrong + " wrong");
        if (wrong > 0) {
            System.exit(1);
        }
    }
}
