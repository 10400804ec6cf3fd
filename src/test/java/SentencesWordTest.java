/** Promises 15 to 21, sentence by sentence; what these calls refuse is in RefusedTest. */
public final class SentencesWordTest {
    private static final Sentences S = new Sentences();
    private static final Class<?> ARGUMENT = IllegalArgumentException.class;
    private static final Class<?> INDEX = IndexOutOfBoundsException.class;
    private static final Class<?> STATE = IllegalStateException.class;
    private static final Class<?> NONE = java.util.NoSuchElementException.class;

    public static void main(String[] args) {
        push();
        clearWord();
        symbol();
        runs();
        mostRuns();
        transduce();
        isLast();
        lengthOfResult();
        noOutput();
        result();
        useResult();
        tenSymbols();
        S.end();
    }

    private static void push() {
        S.sentence("Promise 15", "Appends a symbol to the word.");
        TransducerBench x = new TransducerBench();
        int[] symbols = {0, 99, 63, 64, 1, 98, 50, 50, 0, 99};
        for (int i = 0; i < 10; i++) {
            x.push(symbols[i]);
            for (int k = 0; k <= i; k++) {
                int asked = k;
                S.due("symbol " + k + " of " + (i + 1), symbols[k], () -> x.symbol(asked));
            }
            int length = i + 1;
            S.due("no symbol " + length, INDEX, () -> x.symbol(length));
        }
        S.sentence("Promise 15", "Returns the length of the word.");
        x.clearWord();
        for (int length = 1; length <= 10; length++) {
            int want = length;
            S.due("symbol " + want, want, () -> x.push(7));
        }
        S.sentence("Promise 15", "Throws IllegalStateException if the word has 10 symbols");
        S.due("an eleventh", STATE, () -> x.push(7));
        S.due("and again", STATE, () -> x.push(0));
        S.due("the tenth stays", 7, () -> x.symbol(9));
        S.due("there is no eleventh", INDEX, () -> x.symbol(10));
        x.clearWord();
        S.due("after clearWord", 1, () -> x.push(7));
    }

    private static void clearWord() {
        S.sentence("Promise 16", "Makes the word empty.");
        TransducerBench x = Check.bench("!0");
        Check.word(x, 1, 2);
        S.due("no run before", 0L, () -> x.runs(0));
        x.clearWord();
        S.due("no symbol 0", INDEX, () -> x.symbol(0));
        S.due("the empty word has a run", 1L, () -> x.runs(0));
        S.due("the next symbol is the first", 8, () -> {
            x.push(8);
            return x.symbol(0);
        });
        S.due("the old second one is gone", INDEX, () -> x.symbol(1));
        S.sentence("Promise 16", "Returns the length that it had.");
        TransducerBench y = new TransducerBench();
        for (int length = 0; length <= 10; length++) {
            int want = length;
            for (int i = 0; i < length; i++) {
                y.push(i);
            }
            S.due("length " + length, want, () -> y.clearWord());
            S.due("then", 0, () -> y.clearWord());
        }
    }

    private static void symbol() {
        S.sentence("Promise 17", "Returns a symbol of the word.");
        TransducerBench x = new TransducerBench();
        Check.word(x, 9, 8, 7);
        S.due("the first", 9, () -> x.symbol(0));
        S.due("the second", 8, () -> x.symbol(1));
        S.due("the third", 7, () -> x.symbol(2));
        S.due("not that of the result", INDEX, () -> x.result(0));
        S.sentence("Promise 17", "Throws IndexOutOfBoundsException if there is no such index");
        S.due("3", INDEX, () -> x.symbol(3));
        S.due("-1", INDEX, () -> x.symbol(-1));
        S.due("9", INDEX, () -> x.symbol(9));
        S.due("10", INDEX, () -> x.symbol(10));
    }

    private static void runs() {
        S.sentence("Promise 18", "Returns the number of accepting runs of a transducer on the word.");
        TransducerBench x = Check.bench(
                "!0;!2;0>0:1-9/x;0>1:1-5/;0>1:1-5/;1>2:5-9/x+1,1;2>2:9/x+90;2>2:9/x+91", "!11;0>11:3/5");
        S.due("the empty word", 1L, () -> x.runs(0));
        S.due("the empty word, start not final", 0L, () -> x.runs(1));
        Check.word(x, 5);
        S.due("one symbol", 1L, () -> x.runs(0));
        Check.word(x, 5, 5);
        S.due("two symbols", 3L, () -> x.runs(0));
        Check.word(x, 5, 5, 9);
        S.due("three symbols, one run and two and two", 5L, () -> x.runs(0));
        Check.word(x, 5, 9, 9);
        S.due("the rule that puts out 100 is not enabled", 3L, () -> x.runs(0));
        Check.word(x, 0);
        S.due("a symbol that no rule takes", 0L, () -> x.runs(0));
        Check.word(x, 3);
        S.due("to state 11", 1L, () -> x.runs(1));
        S.due("an empty slot", 0L, () -> x.runs(2));
    }

    private static void mostRuns() {
        S.sentence("Promise 18", "Returns the number of runs.");
        TransducerBench x = Check.bench("!0");
        long want = 1;
        for (int i = 0; i < 40; i++) {
            x.addRule(0, 0, 0, 0, 99);
        }
        for (int length = 0; length <= 10; length++) {
            long due = want;
            S.due("forty rules, length " + length, due, () -> x.runs(0));
            want *= 40;
            Check.outcome(() -> x.push(99));
        }
        TransducerBench y = new TransducerBench();
        for (int i = 0; i < 20; i++) {
            y.addRule(3, 0, 11, 0, 99);
            y.addRule(3, 11, 0, 0, 99);
        }
        y.setFinal(3, 0, true);
        Check.word(y, 0, 99, 0, 99, 0, 99, 0, 99, 0, 99);
        S.due("twenty each way", 10240000000000L, () -> y.runs(3));
    }

    private static void transduce() {
        S.sentence("Promise 19",
                "Finds an output of a transducer for the word, which becomes the result.");
        TransducerBench x = Check.bench("!1;0>1:1/5,6", "!1;0>1:1/x;1>1:2/7,x", "!0");
        Check.word(x, 1);
        S.due("slot 0", "2: 5 6", () -> Check.output(x, 0, false));
        S.due("slot 1", "1: 1", () -> Check.output(x, 1, false));
        S.due("no second symbol", INDEX, () -> x.result(1));
        Check.word(x, 1, 2);
        S.due("another word", "3: 1 7 2", () -> Check.output(x, 1, false));
        x.clearWord();
        S.due("the empty word", "0: ", () -> Check.output(x, 2, false));
        S.due("no symbol", INDEX, () -> x.result(0));
    }

    private static void both(String text, int[] word, String first, String last) {
        TransducerBench x = Check.bench(text);
        Check.word(x, word);
        S.due("first of " + text, first, () -> Check.output(x, 0, false));
        S.due("last of " + text, last, () -> Check.output(x, 0, true));
        S.due("first of " + text + " again", first, () -> Check.output(x, 0, false));
    }

    private static void isLast() {
        S.sentence("Promise 19", "`isLast`: true for the output that comes last in the order of words, false "
                + "for the one that comes first");
        int[] one = {1};
        int[] two = {1, 2};
        int[] three = {1, 2, 3};
        both("!1;0>1:1/6;0>1:1/5;0>1:1/7", one, "1: 5", "1: 7");
        both("!1;0>1:1/5", one, "1: 5", "1: 5");
        both("!1;!2;0>1:1/5;0>2:1/", one, "0: ", "1: 5");
        both("!1;0>1:1/0,0;0>1:1/0;0>1:1/0,0,0", one, "1: 0", "3: 0 0 0");
        both("!2;0>1:1/5;0>1:1/;1>2:2/5;1>2:2/6", two, "1: 5", "1: 6");
        both("!2;0>1:1/5;0>1:1/;1>2:2/;1>2:2/4", two, "0: ", "2: 5 4");
        both("!2;0>1:1/5;0>3:1/5,0;1>2:2/0,1;3>2:2/", two, "2: 5 0", "3: 5 0 1");
        both("!2;0>1:1/5;0>3:1/5,5;1>2:2/6;3>2:2/9", two, "3: 5 5 9", "2: 5 6");
        both("!3;0>1:1/;0>2:1/7,7;1>1:2/7;2>2:2/;1>3:3/6,9;2>3:3/6", three, "3: 7 6 9", "3: 7 7 6");
        both("!3;0>1:1/1;0>2:1/1;1>1:2/2;2>2:2/2;1>3:3/4;2>3:3/3", three, "3: 1 2 3", "3: 1 2 4");
        both("!3;0>1:1/1;0>2:1/1;1>2:2/3;2>1:2/2;1>3:3/0;2>3:3/9", three, "3: 1 2 0", "3: 1 3 9");
        both("!0;0>0:1-9/x;0>0:1-9/9", three, "3: 1 2 3", "3: 9 9 9");
        both("!0;0>0:1-9/x,x;0>0:1-9/x", three, "5: 1 1 2 2 3", "4: 1 2 3 3");
    }

    private static void lengthOfResult() {
        S.sentence("Promise 19", "Returns the length of the result.");
        TransducerBench x = Check.bench("!0;0>0:0/;0>0:1/1;0>0:2/2,2;0>0:3/3,3,3;0>0:6/6,6,6,6,6,6");
        int sum = 0;
        x.clearWord();
        for (int symbol : new int[] {0, 1, 2, 3, 6, 6, 6, 6, 6, 6}) {
            sum += symbol;
            int want = sum;
            x.push(symbol);
            S.due("length " + sum, want, () -> x.transduce(0, false));
            S.due("nothing behind " + sum, INDEX, () -> x.result(want));
        }
        Check.word(x, 6, 6, 6, 6, 6, 6, 6, 6, 6, 6);
        S.due("the longest", 60, () -> x.transduce(0, true));
        S.due("its last symbol", 6, () -> x.result(59));
    }

    private static void noOutput() {
        S.sentence("Promise 19", "Throws NoSuchElementException if the word has no output");
        TransducerBench x = Check.bench("!1;0>1:1/x;1>2:1/;0>1:2/x-3", "0>0:0-99/x", "!1");
        S.due("the start is not final", NONE, () -> x.transduce(0, false));
        Check.word(x, 1);
        S.due("this one has", 1, () -> x.transduce(0, false));
        Check.word(x, 1, 1);
        S.due("ends in a state that is not final", NONE, () -> x.transduce(0, true));
        S.due("the result stays", 1, () -> x.result(0));
        S.due("no final state at all", NONE, () -> x.transduce(1, false));
        S.due("a final state that is not reached", NONE, () -> x.transduce(2, true));
        Check.word(x, 2);
        S.due("a rule that is not enabled", NONE, () -> x.transduce(0, true));
        Check.word(x, 3);
        S.due("no rule", NONE, () -> x.transduce(0, false));
        S.due("an empty slot", NONE, () -> x.transduce(3, false));
        S.due("no slot", ARGUMENT, () -> x.transduce(4, false));
    }

    private static void result() {
        S.sentence("Promise 20", "Returns a symbol of the result.");
        TransducerBench x = Check.bench("!0;0>0:0-99/x,0,99");
        Check.word(x, 63, 64);
        x.transduce(0, false);
        int[] want = {63, 0, 99, 64, 0, 99};
        for (int i = 0; i < 6; i++) {
            int asked = i;
            S.due("symbol " + i, want[i], () -> x.result(asked));
        }
        x.clearWord();
        S.due("whatever becomes of the word", 64, () -> x.result(3));
        x.removeRule(0, 0);
        S.due("and of the transducer", 99, () -> x.result(5));
        S.sentence("Promise 20", "Throws IndexOutOfBoundsException if there is no such index");
        S.due("6", INDEX, () -> x.result(6));
        S.due("-1", INDEX, () -> x.result(-1));
        S.due("59", INDEX, () -> x.result(59));
        S.due("60", INDEX, () -> x.result(60));
        x.transduce(0, false);
        S.due("0 of none", INDEX, () -> x.result(0));
    }

    private static void useResult() {
        S.sentence("Promise 21", "Makes the result the word. The result stays.");
        TransducerBench x = Check.bench("!0;0>0:0-97/x+1,x+2");
        Check.word(x, 3, 96);
        x.transduce(0, false);
        x.useResult();
        int[] want = {4, 5, 97, 98};
        for (int i = 0; i < 4; i++) {
            int asked = i;
            S.due("symbol " + i + " of the word", want[i], () -> x.symbol(asked));
            S.due("symbol " + i + " of the result", want[i], () -> x.result(asked));
        }
        S.due("no symbol 4 of the word", INDEX, () -> x.symbol(4));
        S.due("no symbol 4 of the result", INDEX, () -> x.result(4));
        x.push(50);
        S.due("the word grows alone", INDEX, () -> x.result(4));
        x.clearWord();
        S.due("the word shrinks alone", 4, () -> x.result(0));
        S.due("it can be used again", 4, () -> x.useResult());
        S.sentence("Promise 21", "Returns the length of the word.");
        S.due("as long as the result", 4, () -> x.useResult());
        S.due("which is its length", 4, () -> x.clearWord());
        S.due("of a shortest input", 0, () -> {
            x.shortestInput(0);
            return x.useResult();
        });
        S.due("of a new object", 0, () -> new TransducerBench().useResult());
        S.due("when the word was longer", 0, () -> {
            Check.word(x, 1, 2, 3);
            return x.useResult();
        });
        S.due("which is empty then", INDEX, () -> x.symbol(0));
    }

    private static void tenSymbols() {
        S.sentence("Promise 21", "Throws IllegalStateException if the result has more than 10 symbols");
        TransducerBench x = Check.bench("!0;0>0:0/x,x,x,x,x,x;0>0:1/x;0>0:5/5,5,5,5,5");
        Check.word(x, 0, 1, 1, 1);
        x.transduce(0, false);
        S.due("nine", 9, () -> x.useResult());
        Check.word(x, 0, 1, 1, 1, 1);
        x.transduce(0, false);
        S.due("ten", 10, () -> x.useResult());
        S.due("the tenth", 1, () -> x.symbol(9));
        S.due("there is room for no more", STATE, () -> x.push(0));
        Check.word(x, 5, 0);
        x.transduce(0, false);
        S.due("eleven", STATE, () -> x.useResult());
        S.due("the word stays", 0, () -> x.symbol(1));
        S.due("and its length", 2, () -> x.clearWord());
        S.due("the result stays", 0, () -> x.result(10));
        Check.word(x, 0, 0, 0, 0, 0, 0, 0, 0, 0, 0);
        x.transduce(0, false);
        S.due("sixty", STATE, () -> x.useResult());
    }
}
