/** Promises 15 to 21: the word, runs on it, and the result. */
public final class WordTest {
    private static final Check CHECK = new Check();
    private static final Class<?> ARGUMENT = IllegalArgumentException.class;
    private static final Class<?> INDEX = IndexOutOfBoundsException.class;
    private static final Class<?> STATE = IllegalStateException.class;
    private static final Class<?> NONE = java.util.NoSuchElementException.class;

    private static void due(String what, Object want, Check.Call call) {
        CHECK.due(what, want, call);
    }

    public static void main(String[] args) {
        word();
        runs();
        transduce();
        ordering();
        longOutput();
        useResult();
        CHECK.end();
    }

    private static void word() {
        TransducerBench x = new TransducerBench();
        due("16: empty at first", 0, () -> x.clearWord());
        due("15: symbol -1", ARGUMENT, () -> x.push(-1));
        due("15: symbol 100", ARGUMENT, () -> x.push(100));
        for (int i = 1; i <= 10; i++) {
            int length = i;
            due("15: push " + i, length, () -> x.push(100 - length * 10));
        }
        due("15: the eleventh", STATE, () -> x.push(0));
        due("15: the eleventh that is no symbol", ARGUMENT, () -> x.push(100));
        due("17: the first", 90, () -> x.symbol(0));
        due("17: the last", 0, () -> x.symbol(9));
        due("17: index 10", INDEX, () -> x.symbol(10));
        due("17: index -1", INDEX, () -> x.symbol(-1));
        due("16: the length that it had", 10, () -> x.clearWord());
        due("17: no index", INDEX, () -> x.symbol(0));
        due("15: afresh", 1, () -> x.push(99));
        due("17: afresh", 99, () -> x.symbol(0));
    }

    private static void runs() {
        TransducerBench x = Check.bench("!1;0>1:1-5/x;0>1:1-5/x;0>2:1/7;2>1:1/;1>1:5/x+95;1>1:4/x+95");
        due("18: the start is not final", 0L, () -> x.runs(0));
        Check.word(x, 1);
        due("18: alike rules make different runs", 2L, () -> x.runs(0));
        Check.word(x, 1, 1);
        due("18: only one", 1L, () -> x.runs(0));
        Check.word(x, 5, 5);
        due("18: a rule that is not enabled", 0L, () -> x.runs(0));
        Check.word(x, 5, 4);
        due("18: a rule that is just enabled", 2L, () -> x.runs(0));
        due("18: another slot", 0L, () -> x.runs(3));
        due("18: slot 4", ARGUMENT, () -> x.runs(4));
        due("18: slot -1", ARGUMENT, () -> x.runs(-1));
        for (int i = 0; i < 40; i++) {
            x.addRule(1, 0, 0, 0, 99);
        }
        x.setFinal(1, 0, true);
        x.clearWord();
        due("18: the empty word", 1L, () -> x.runs(1));
        Check.word(x, 0, 99, 63, 64, 5, 6, 7, 8, 9, 10);
        due("18: as many as can be", 10485760000000000L, () -> x.runs(1));
    }

    private static void transduce() {
        TransducerBench x = Check.bench("!1;0>1:1-5/x+1,7;0>1:1-5/x+2;0>0:1-5/9;1>1:1-5/");
        due("19: no output", NONE, () -> x.transduce(0, false));
        Check.word(x, 3);
        due("19: the first", 2, () -> x.transduce(0, false));
        due("20: its symbols", "4 7", () -> Check.showResult(x, 2));
        due("20: index 2", INDEX, () -> x.result(2));
        due("20: index -1", INDEX, () -> x.result(-1));
        due("19: the last", 1, () -> x.transduce(0, true));
        due("20: its symbol", 5, () -> x.result(0));
        due("20: index 1", INDEX, () -> x.result(1));
        Check.word(x, 3, 4);
        due("19: the last of two symbols", 2, () -> x.transduce(0, true));
        due("20: which begins with 9", "9 6", () -> Check.showResult(x, 2));
        Check.word(x, 6);
        due("19: no rule", NONE, () -> x.transduce(0, true));
        due("20: the result stays", "9 6", () -> Check.showResult(x, 2));
        due("19: slot", ARGUMENT, () -> x.transduce(4, true));
        Check.read(x, 1, "!0");
        x.clearWord();
        due("19: the empty output of the empty word", 0, () -> x.transduce(1, true));
        due("20: is empty", INDEX, () -> x.result(0));
    }

    private static void ordering() {
        TransducerBench x = Check.bench("!1;0>1:1/5;0>1:1/5,0;0>1:1/5,0,0;0>1:1/4,99,99");
        Check.word(x, 1);
        due("19: a word comes before longer ones that begin with it", 3, () -> x.transduce(0, false));
        due("20: but 4 comes before 5", 4, () -> x.result(0));
        x.removeRule(0, 3);
        due("19: the shortest is the first", 1, () -> x.transduce(0, false));
        due("19: the longest is the last", 3, () -> x.transduce(0, true));
        TransducerBench y = Check.bench("!3;0>1:1/5;0>2:1/5,5;1>3:1/6;2>3:1/4;2>3:1/");
        Check.word(y, 1, 1);
        due("19: the end decides", 2, () -> y.transduce(0, false));
        due("20: for the first", "5 5", () -> Check.showResult(y, 2));
        due("19: and the other end", 2, () -> y.transduce(0, true));
        due("20: for the last", "5 6", () -> Check.showResult(y, 2));
        TransducerBench z = Check.bench("!2;0>1:1/5;0>9:1/0;1>2:1/5");
        Check.word(z, 1, 1);
        due("19: runs that do not accept are no matter", 2, () -> z.transduce(0, false));
        due("20: though they begin lower", "5 5", () -> Check.showResult(z, 2));
    }

    private static void longOutput() {
        TransducerBench x = Check.bench("!0;0>0:0-99/x,x,x,x,x,x");
        Check.word(x, 1, 2, 3, 4, 5, 6, 7, 8, 9, 10);
        due("19: sixty symbols", 60, () -> x.transduce(0, false));
        due("20: the last of sixty", 10, () -> x.result(59));
        due("20: the first of sixty", 1, () -> x.result(0));
        due("20: index 60", INDEX, () -> x.result(60));
        due("21: sixty are too many", STATE, () -> x.useResult());
        due("21: the word stays", 10, () -> x.symbol(9));
        Check.read(x, 0, "!0;0>0:0-99/x,x,x,x,x,x;0>0:0-99/x,x,x,x,x");
        due("19: lower symbols as often as can be, but the last one", 59, () -> x.transduce(0, false));
        due("19: lower symbols as seldom as can be, but the last one", 51, () -> x.transduce(0, true));
        due("20: index 51", INDEX, () -> x.result(51));
    }

    private static void useResult() {
        TransducerBench x = Check.bench("!0;0>0:0-98/x+1,5", "!0;0>0:0-99/x,x,x,x,x,x");
        due("21: the empty result", 0, () -> x.useResult());
        Check.word(x, 1, 2);
        x.transduce(0, false);
        due("21: four symbols", 4, () -> x.useResult());
        due("17: the first", 2, () -> x.symbol(0));
        due("17: the last", 5, () -> x.symbol(3));
        due("17: no more", INDEX, () -> x.symbol(4));
        due("21: the result stays", "2 5 3 5", () -> Check.showResult(x, 4));
        due("15: the word and the result are two", 5, () -> x.push(9));
        due("20: the result is not longer", INDEX, () -> x.result(4));
        x.transduce(0, false);
        due("21: ten symbols", 10, () -> x.useResult());
        due("15: it is full", STATE, () -> x.push(0));
        Check.word(x, 1, 2);
        due("19: twelve", 12, () -> x.transduce(1, false));
        due("21: twelve are too many", STATE, () -> x.useResult());
        due("17: the word is as before", 2, () -> x.symbol(1));
        due("17: and as long", INDEX, () -> x.symbol(2));
    }
}
