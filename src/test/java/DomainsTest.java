/** Promises 22 to 25: domains, shortest words and the symbols of outputs. */
public final class DomainsTest {
    private static final Check CHECK = new Check();
    private static final Class<?> ARGUMENT = IllegalArgumentException.class;
    private static final Class<?> INDEX = IndexOutOfBoundsException.class;
    private static final Class<?> STATE = IllegalStateException.class;
    private static final Class<?> NONE = java.util.NoSuchElementException.class;

    private static void due(String what, Object want, Check.Call call) {
        CHECK.due(what, want, call);
    }

    public static void main(String[] args) {
        domainCount();
        manySets();
        domainShare();
        shortestInput();
        longestShortest();
        outputSymbols();
        CHECK.end();
    }

    private static void domainCount() {
        TransducerBench x = Check.bench(
                "!0;!2;0>1:1-4/x;0>2:3-6/7;1>2:0-9/;2>2:90-99/x+5", "!0;0>0:0-99/", "0>0:0-99/");
        due("22: the empty word", 1L, () -> x.domainCount(0, 0));
        due("22: words are counted once", 4L, () -> x.domainCount(0, 1));
        due("22: by two ways", 4L * 10 + 4 * 5, () -> x.domainCount(0, 2));
        due("22: three symbols", 4L * 10 * 5 + 4 * 25, () -> x.domainCount(0, 3));
        due("22: all words of length 8", 10000000000000000L, () -> x.domainCount(1, 8));
        due("22: no final state", 0L, () -> x.domainCount(2, 3));
        due("22: an empty slot", 0L, () -> x.domainCount(3, 0));
        due("22: length -1", ARGUMENT, () -> x.domainCount(0, -1));
        due("22: length 9", ARGUMENT, () -> x.domainCount(0, 9));
        due("22: slot 4", ARGUMENT, () -> x.domainCount(4, 0));
        due("22: slot -1", ARGUMENT, () -> x.domainCount(-1, 0));
        TransducerBench two = Check.bench("!1;0>1:1/;0>1:1/;0>2:1/5;2>1:1/;1>1:1/");
        due("22: alike rules make no more words", 1L, () -> two.domainCount(0, 1));
        due("22: nor do several runs", 1L, () -> two.domainCount(0, 5));
        due("22: the counts of a call leave none behind", 1L, () -> two.domainCount(0, 5));
    }

    /** The domain asks for a 1 eight symbols before the end, so very many sets of states are met. */
    private static void manySets() {
        TransducerBench x = Check.bench(
                "!8;0>0:0-99/;0>1:1/;1>2:0-99/;2>3:0-99/;3>4:0-99/;4>5:0-99/;5>6:0-99/;6>7:0-99/;7>8:0-99/");
        due("22: too short", 0L, () -> x.domainCount(0, 7));
        due("22: the first is 1", 100000000000000L, () -> x.domainCount(0, 8));
        due("23: a hundredth", 0.01, () -> x.domainShare(0, 8));
        due("24: eight symbols", 8, () -> x.shortestInput(0));
        due("24: which are", "1 0 0 0 0 0 0 0", () -> Check.showResult(x, 8));
    }

    private static void domainShare() {
        TransducerBench x = Check.bench("!0;0>0:0-32/", "!1;0>1:7/", "!0;0>0:0-99/");
        due("23: the empty word", 1.0, () -> x.domainShare(0, 0));
        due("23: none", 0.0, () -> x.domainShare(1, 0));
        due("23: a third nearly", 33.0 / 100.0, () -> x.domainShare(0, 1));
        due("23: of two", 1089.0 / 10000.0, () -> x.domainShare(0, 2));
        due("23: of eight", 1406408618241.0 / 1e16, () -> x.domainShare(0, 8));
        due("23: all", 1.0, () -> x.domainShare(2, 8));
        due("23: one", 0.01, () -> x.domainShare(1, 1));
        due("23: length 9", ARGUMENT, () -> x.domainShare(0, 9));
        due("23: length -1", ARGUMENT, () -> x.domainShare(0, -1));
        due("23: slot", ARGUMENT, () -> x.domainShare(4, 1));
    }

    private static void shortestInput() {
        TransducerBench x = Check.bench("!3;0>1:5-9/;0>2:6-9/;1>3:8/;2>3:0/;0>1:1/x-2;1>1:1/", "0>0:1/");
        due("24: two symbols", 2, () -> x.shortestInput(0));
        due("24: the first of several", "5 8", () -> Check.showResult(x, 2));
        due("24: no final state", NONE, () -> x.shortestInput(1));
        due("24: the result stays", "5 8", () -> Check.showResult(x, 2));
        due("24: slot", ARGUMENT, () -> x.shortestInput(4));
        TransducerBench y = Check.bench("!3;0>1:5/;0>2:5/;1>3:8/;2>3:7/");
        due("24: both ways are looked at", 2, () -> y.shortestInput(0));
        due("24: and the lower one taken", "5 7", () -> Check.showResult(y, 2));
        TransducerBench z = Check.bench("!0;!1;0>1:0/");
        Check.word(z, 0);
        z.transduce(0, false);
        due("24: the empty word", 0, () -> z.shortestInput(0));
        due("24: makes the result empty", INDEX, () -> z.result(0));
        TransducerBench never = Check.bench("!1;0>1:0-9/x-10;0>2:5/;2>1:3/x");
        due("24: a rule that is not enabled is no way", 2, () -> never.shortestInput(0));
        due("24: a longer one is", "5 3", () -> Check.showResult(never, 2));
    }

    private static void longestShortest() {
        TransducerBench x = new TransducerBench();
        for (int i = 0; i < 11; i++) {
            x.addRule(0, i, i + 1, 88 + i, 99);
        }
        x.setFinal(0, 11, true);
        due("24: eleven symbols", 11, () -> x.shortestInput(0));
        due("24: the last of eleven", 98, () -> x.result(10));
        due("21: eleven are too many for the word", STATE, () -> x.useResult());
    }

    private static void outputSymbols() {
        TransducerBench x = Check.bench("!1;0>1:10-20/x,x+5,3;1>2:0-99/x;3>1:0-99/x;0>1:9/x-10,50");
        due("25: values of rules of accepting runs", 11 + 5 + 1, () -> x.outputSymbols(0));
        due("25: none", 0, () -> x.outputSymbols(1));
        due("25: slot", ARGUMENT, () -> x.outputSymbols(-1));
        x.setFinal(0, 2, true);
        due("25: all", 100, () -> x.outputSymbols(0));
        TransducerBench y = Check.bench("!1;0>1:0-98/x+1,x+1,5");
        due("25: only where all terms are symbols", 99, () -> y.outputSymbols(0));
        y.addTerm(0, 0, true, 98);
        due("25: of the two symbols left", 1 + 1 + 1 + 2, () -> y.outputSymbols(0));
    }
}
