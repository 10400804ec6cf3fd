/** Promises 22 to 25, sentence by sentence; what these calls refuse is in RefusedTest. */
public final class SentencesDomainsTest {
    private static final Sentences S = new Sentences();
    private static final Class<?> ARGUMENT = IllegalArgumentException.class;
    private static final Class<?> INDEX = IndexOutOfBoundsException.class;
    private static final Class<?> STATE = IllegalStateException.class;
    private static final Class<?> NONE = java.util.NoSuchElementException.class;

    public static void main(String[] args) {
        domainCount();
        wordsNotRuns();
        lengths();
        everySymbol();
        manySets();
        domainShare();
        bothAsDoubles();
        shortest();
        firstOfSeveral();
        becomesTheResult();
        emptyDomain();
        outputSymbols();
        symbolsOfTheDomain();
        S.end();
    }

    private static void count(long want, int length, String text) {
        S.due(text + ", length " + length, want, () -> Check.bench(text).domainCount(0, length));
    }

    private static void domainCount() {
        S.sentence("Promise 22",
                "Returns the number of words of a length in the domain of a transducer.");
        count(0, 0, "");
        count(0, 8, "");
        count(1, 0, "!0");
        count(0, 1, "!0");
        count(0, 8, "!0");
        count(0, 0, "!1;0>1:0-99/");
        count(100, 1, "!1;0>1:0-99/");
        count(0, 2, "!1;0>1:0-99/");
        count(1, 1, "!1;0>1:0/");
        count(1, 1, "!1;0>1:99/");
        count(2, 1, "!11;0>11:0,99/");
        count(49, 2, "!0;0>0:1-7/");
        count(7 * 5, 2, "!2;0>1:1-7/;1>2:0-4/");
        count(99, 1, "!1;0>1:0-99/x+1");
        count(1, 1, "!1;0>1:0-99/x+99");
        count(0, 1, "!1;0>1:0-99/x+60,x-60");
        count(0, 3, "0>0:0-99/");
        count(10000000000000000L, 8, "!0;0>0:0-99/");
        count(1, 8, "!0;0>0:50/");
        count(9227446944279201L, 8, "!0;0>0:0-98/");
    }

    private static void wordsNotRuns() {
        S.sentence("Promise 22", "Returns the number of words.");
        count(1, 1, "!1;0>1:5/;0>1:5/x;0>1:5/x,x");
        count(3, 1, "!1;!2;0>1:5-6/;0>2:6-7/");
        count(1, 8, "!0;0>0:5/1;0>0:5/2;0>0:5/3");
        count(6, 2, "!2;!3;0>1:1/;0>3:1-2/;1>2:1-3/;3>3:3-4/");
        count(19, 2, "!3;0>1:1/;0>2:1/;1>3:0-9/;2>3:5-18/");
        count(255, 8, "!1;0>0:1-2/;0>1:2/;1>1:1-2/");
        count(128, 8, "!1;0>0:1-2/;0>1:2/");
        TransducerBench x = Check.bench("!1;0>1:5-6/;0>1:5/");
        x.push(5);
        S.due("of the word there are two runs", 2L, () -> x.runs(0));
        S.due("but two words of one symbol", 2L, () -> x.domainCount(0, 1));
    }

    private static void lengths() {
        S.sentence("Promise 22", "`length`: the length, 0 to 8");
        TransducerBench x = Check.bench("!0;0>0:0-9/", "!0;0>0:0-99/");
        long want = 1;
        long all = 1;
        for (int length = 0; length <= 8; length++) {
            int asked = length;
            long ten = want;
            long hundred = all;
            S.due("ten symbols, length " + length, ten, () -> x.domainCount(0, asked));
            S.due("a hundred symbols, length " + length, hundred, () -> x.domainCount(1, asked));
            want *= 10;
            all *= 100;
        }
        S.due("length 9", ARGUMENT, () -> x.domainCount(0, 9));
        S.due("length -1", ARGUMENT, () -> x.domainCount(0, -1));
        S.due("an empty slot, length 9", ARGUMENT, () -> x.domainCount(3, 9));
        S.due("an empty slot, length 8", 0L, () -> x.domainCount(3, 8));
        S.sentence("Promise 23", "`length`: the length, 0 to 8");
        for (int length = 0; length <= 8; length++) {
            int asked = length;
            S.due("all words, length " + length, 1.0, () -> x.domainShare(1, asked));
            S.due("an empty slot, length " + length, 0.0, () -> x.domainShare(2, asked));
        }
        S.due("length 9", ARGUMENT, () -> x.domainShare(0, 9));
        S.due("length -1", ARGUMENT, () -> x.domainShare(0, -1));
    }

    /** Every symbol differs from its neighbours, and every state is left by some rule. */
    private static void everySymbol() {
        S.sentence("Promise 22",
                "Returns the number of words of a length in the domain of a transducer.");
        TransducerBench x = Check.bench("!0;0>0:0/");
        for (int symbol = 2; symbol < 100; symbol += 2) {
            x.addRange(0, 0, symbol, symbol);
        }
        S.due("fifty symbols apart, length 1", 50L, () -> x.domainCount(0, 1));
        S.due("fifty symbols apart, length 8", 39062500000000L, () -> x.domainCount(0, 8));
        S.due("their share", 39062500000000.0 / 1e16, () -> x.domainShare(0, 8));
        TransducerBench y = Check.bench("!0;!1;!2;!3;!4;!5;!6;!7;!8;!9;!10;!11");
        for (int state = 0; state < 12; state++) {
            y.addRule(0, state, (state + 5) % 12, 5, 5);
        }
        S.due("all states leave by a 5, length 1", 1L, () -> y.domainCount(0, 1));
        S.due("all states leave by a 5, length 8", 1L, () -> y.domainCount(0, 8));
        for (int state = 0; state < 12; state++) {
            y.addRule(0, state, (state + 7) % 12, 6, 6);
        }
        S.due("or by a 6, length 8", 256L, () -> y.domainCount(0, 8));
    }

    /**
     * A 1 leads each state to the next one, a 2 leads state 0 to 1, a 3 leads it to 0 and to 1; the
     * others stay. So words lead to all sets of states but the empty one.
     */
    static void fillManySets(TransducerBench x, int slot) {
        for (int state = 0; state < 12; state++) {
            x.addRule(slot, state, (state + 1) % 12, 1, 1);
        }
        x.addRule(slot, 0, 1, 2, 3);
        x.addRule(slot, 0, 0, 3, 3);
        for (int state = 1; state < 12; state++) {
            x.addRule(slot, state, state, 2, 3);
        }
    }

    private static void manySets() {
        S.sentence("Promise 22", "Returns the number of words.");
        TransducerBench x = new TransducerBench();
        fillManySets(x, 1);
        x.setFinal(1, 2, true);
        long[] want = {0, 0, 3, 13, 41, 113, 289, 705, 1665};
        for (int length = 0; length <= 8; length++) {
            int asked = length;
            S.due("after which state 2 is among those reached, length " + length, want[length],
                    () -> x.domainCount(1, asked));
        }
        for (int state = 0; state < 12; state++) {
            x.setFinal(1, state, true);
        }
        S.due("all of length 8", 6561L, () -> x.domainCount(1, 8));
        S.due("asked again", 6561L, () -> x.domainCount(1, 8));
        S.due("the shortest", 0, () -> x.shortestInput(1));
    }

    private static void domainShare() {
        S.sentence("Promise 23",
                "Returns the share of the words of a length that are in the domain of a transducer:");
        TransducerBench x = Check.bench("!0;0>0:0-9/", "!1;0>1:5/;0>1:5-6/", "!0", "!1;0>0:0-99/;0>1:7/");
        S.due("the empty word", 1.0, () -> x.domainShare(0, 0));
        S.due("a tenth", 0.1, () -> x.domainShare(0, 1));
        S.due("a hundredth", 0.01, () -> x.domainShare(0, 2));
        S.due("the empty word is none", 0.0, () -> x.domainShare(1, 0));
        S.due("words, not runs", 0.02, () -> x.domainShare(1, 1));
        S.due("none of two symbols", 0.0, () -> x.domainShare(1, 2));
        S.due("the empty word alone", 1.0, () -> x.domainShare(2, 0));
        S.due("no longer one", 0.0, () -> x.domainShare(2, 1));
        S.due("a hundredth of length 8", 0.01, () -> x.domainShare(3, 8));
    }

    private static void bothAsDoubles() {
        S.sentence("Promise 23",
                "their number divided by 100 to the power of the length, both as doubles.");
        int[] counts = {1, 3, 7, 33, 49, 51, 67, 97, 99, 100};
        for (int count : counts) {
            TransducerBench x = new TransducerBench();
            x.addRule(0, 0, 0, 0, count - 1);
            x.setFinal(0, 0, true);
            long words = 1;
            double all = 1;
            for (int length = 0; length <= 8; length++) {
                int asked = length;
                double want = (double) words / all;
                S.due(count + " symbols, length " + length, want, () -> x.domainShare(0, asked));
                words *= count;
                all *= 100;
            }
        }
        S.due("a number that no double has", (double) 9227446944279201L / 1e16,
                () -> Check.bench("!0;0>0:0-98/").domainShare(0, 8));
        S.due("the least share", 1e-16, () -> Check.bench("!0;0>0:7/").domainShare(0, 8));
    }

    private static void shortest(String want, String text) {
        S.due(text, want, () -> {
            TransducerBench x = Check.bench(text);
            int length = x.shortestInput(0);
            return length + ": " + Check.showResult(x, length);
        });
    }

    private static void shortest() {
        S.sentence("Promise 24", "Finds the shortest word in the domain of a transducer,");
        shortest("0: ", "!0");
        shortest("0: ", "!0;!1;0>1:0/");
        shortest("1: 99", "!1;0>1:99/");
        shortest("1: 9", "!1;!2;0>1:9/;0>2:9/;0>3:0/;3>2:0/");
        shortest("2: 0 0", "!2;0>1:0/;1>2:0/;0>3:1/;3>4:0/;4>2:0/");
        shortest("1: 7", "!1;0>1:0-9/x-7");
        shortest("2: 3 2", "!1;0>1:0/x-1;0>2:3/;2>1:2/");
        shortest("2: 8 1", "!2;0>1:5/;1>1:5/;0>3:8/;3>2:1/");
        TransducerBench x = new TransducerBench();
        for (int state = 0; state < 11; state++) {
            x.addRule(0, state, state + 1, 99 - state, 99 - state);
            x.addRule(0, state, 0, 0, 0);
        }
        x.setFinal(0, 11, true);
        S.due("eleven symbols, the most there can be", 11, () -> x.shortestInput(0));
        S.due("which are", "99 98 97 96 95 94 93 92 91 90 89", () -> Check.showResult(x, 11));
        S.due("no twelfth", INDEX, () -> x.result(11));
        S.due("more than the word may have", STATE, () -> x.useResult());
        x.addRule(0, 4, 6, 5, 5);
        S.due("ten with a rule that leaves out a state", 10, () -> x.shortestInput(0));
        S.due("which may be the word", 10, () -> x.useResult());
        S.due("and has an output there", 0, () -> x.transduce(0, false));
    }

    private static void firstOfSeveral() {
        S.sentence("Promise 24", "of several the one that comes first,");
        shortest("1: 0", "!1;0>1:0-99/");
        shortest("1: 3", "!1;0>1:9/;0>1:3-5/;0>1:4/");
        shortest("1: 64", "!1;!2;0>1:65/;0>2:64/");
        shortest("2: 1 9", "!3;0>1:2/;0>2:1/;1>3:0/;2>3:9/");
        shortest("2: 5 1", "!3;0>1:5/;0>2:5/;1>3:2/;2>3:1/");
        shortest("2: 5 1", "!3;0>2:5/;0>1:5/;2>3:1/;1>3:2/");
        shortest("3: 1 2 0", "!5;0>1:1/;0>2:1/;1>3:2/;2>4:2/;3>5:9/;4>5:0/");
        shortest("3: 1 2 9", "!5;0>1:1/;0>2:1/;1>3:2/;2>4:3/;3>5:9/;4>5:0/");
        shortest("2: 4 4", "!2;0>3:0-3/;3>4:0/;4>2:0/;0>1:4-9/;1>2:4-9/");
        shortest("2: 1 0", "!2;0>1:0-5/x-1;1>2:0/");
        shortest("2: 7 6", "!2;!3;0>1:7/;1>1:0/;1>2:6/;1>3:6-8/");
    }

    private static void becomesTheResult() {
        S.sentence("Promise 24", "which becomes the result.");
        TransducerBench x = Check.bench("!2;0>1:5/1,2,3;1>2:6/", "!0", "!1;0>1:8/");
        Check.word(x, 5, 6);
        S.due("two symbols", 2, () -> x.shortestInput(0));
        S.due("the first", 5, () -> x.result(0));
        S.due("the second", 6, () -> x.result(1));
        S.due("no third", INDEX, () -> x.result(2));
        S.due("then an output", "3: 1 2 3", () -> Check.output(x, 0, false));
        S.due("then one symbol", 1, () -> x.shortestInput(2));
        S.due("which is the input, not the output", 8, () -> x.result(0));
        S.due("none behind it", INDEX, () -> x.result(1));
        S.due("the word stays", 6, () -> x.symbol(1));
        S.due("then none", 0, () -> x.shortestInput(1));
        S.due("the result is empty", INDEX, () -> x.result(0));
        S.sentence("Promise 24", "Returns the length of the result.");
        S.due("two", 2, () -> x.shortestInput(0));
        S.due("none", 0, () -> x.shortestInput(1));
        S.due("as the word made of it has", 0, () -> x.useResult());
    }

    private static void emptyDomain() {
        S.sentence("Promise 24", "Throws NoSuchElementException if the domain is empty");
        String[] texts = {"", "0>0:0-99/", "!1", "!1;1>1:0/;1>0:0/", "!1;0>1:1-99/x+99", "!1;0>1:0-98/x-99",
            "!1;0>1:0-99/x+50,x-50", "!2;0>1:0/;1>0:0/;2>2:0/", "!11;0>1:0/;1>10:0/;10>0:0/"};
        for (String text : texts) {
            TransducerBench x = Check.bench(text, "!1;0>1:5/");
            x.shortestInput(1);
            S.due(text, NONE, () -> x.shortestInput(0));
            S.due(text + ", the result stays", 5, () -> x.result(0));
        }
        S.due("not empty", 0, () -> Check.bench("!0").shortestInput(0));
    }

    private static void symbols(int want, String text) {
        S.due(text, want, () -> Check.bench(text).outputSymbols(0));
    }

    private static void outputSymbols() {
        S.sentence("Promise 25", "Returns the number of different symbols that occur in outputs of a "
                + "transducer for words of its domain.");
        symbols(0, "");
        symbols(0, "!0");
        symbols(0, "!0;0>0:0-99/");
        symbols(1, "!0;0>0:0-99/0");
        symbols(2, "!0;0>0:0-99/99,0,99");
        symbols(100, "!0;0>0:0-99/x");
        symbols(99, "!0;0>0:0-99/x+1");
        symbols(100, "!0;0>0:0-99/x+1,0");
        symbols(1, "!0;0>0:0-99/x+99");
        symbols(1, "!0;0>0:0-99/x-99");
        symbols(2, "!0;0>0:0-99/x+99;0>0:0-99/x-99");
        symbols(0, "!0;0>0:0-99/x+60,x-60");
        symbols(4, "!0;0>0:5,7/x,x+1");
        symbols(3, "!0;0>0:5-6/x,x+1");
        symbols(36, "!0;0>0:0-99/x+64");
        symbols(37, "!0;0>0:0-99/x-63");
        symbols(6, "!0;0>0:62-65/x-1,x+1");
    }

    private static void symbolsOfTheDomain() {
        S.sentence("Promise 25", "Returns the number of symbols.");
        symbols(0, "0>0:0-99/x");
        symbols(0, "!1;0>0:0-99/x");
        symbols(0, "!1;1>1:0-99/x;1>0:0-9/x");
        symbols(1, "!1;0>1:1/5;0>2:1/6;2>2:1/7;3>1:1/8");
        symbols(2, "!1;0>1:1/5;0>2:1/6;2>1:1/;3>1:1/8");
        symbols(1, "!1;0>1:1/5;0>2:1/6;2>1:0/x-1");
        symbols(3, "!1;0>0:1/1;0>1:1/2;1>1:1/3");
        TransducerBench x = new TransducerBench();
        for (int state = 0; state < 11; state++) {
            x.addRule(0, state, state + 1, 0, 0);
            x.addTerm(0, state, false, state);
        }
        S.due("no final state", 0, () -> x.outputSymbols(0));
        x.setFinal(0, 11, true);
        S.due("of a word of eleven symbols", 11, () -> x.outputSymbols(0));
        x.setFinal(0, 5, true);
        S.due("and of one more", 11, () -> x.outputSymbols(0));
        x.setFinal(0, 11, false);
        S.due("of the shorter one alone", 5, () -> x.outputSymbols(0));
    }
}
