/** The paragraph 'Composition' and promise 30, sentence by sentence. */
public final class CompositionTest {
    private static final Sentences S = new Sentences();
    private static final Class<?> UNSUPPORTED = UnsupportedOperationException.class;
    private static final String OLD = "1000000000;9>9:9-9/9";

    public static void main(String[] args) {
        aThenB();
        numbering();
        order();
        sequences();
        guard();
        farOffsets();
        goal();
        terms();
        sums();
        finals();
        target();
        twelveStates();
        fortyRules();
        sixTerms();
        outputs();
        S.end();
    }

    private static void composition(String want, String a, String b) {
        TransducerBench x = Check.bench(a, b, "!9;9>9:9/9");
        S.due(a + " then " + b, want, () -> {
            Object answer = Check.outcome(() -> x.compose(0, 1, 2));
            return answer + " " + Check.show(x, 2);
        });
    }

    private static void refused(String a, String b) {
        composition(UNSUPPORTED + " " + OLD, a, b);
    }

    private static void aThenB() {
        S.sentence("Composition", "The composition of the transducers A and B applies A and then B.");
        composition("1 1;0>0:4-4/50", "!0;0>0:0-9/x+1", "!0;0>0:5/50");
        composition("0 1", "!0;0>0:5/50", "!0;0>0:0-9/x+1");
        composition("1 1;0>0:5-5/51", "!0;0>0:5/50", "!0;0>0:50/x+1");
        composition("1 1;0>0:5-9/1001,1002", "!0;0>0:5-9/x+1", "!0;0>0:0-99/x,x+1");
        composition("1 1;0>0:5-9/1001,1003", "!0;0>0:5-9/x,x+2", "!0;0>0:0-99/x+1");
    }

    private static void numbering() {
        S.sentence("Composition", "Its states are pairs of a state of A and a state of B, which are numbered "
                + "in the order in which they are found; the pair of both starts is found first.");
        composition("0 0", "", "");
        composition("0 1", "!0", "!0");
        composition("0 0", "!5;5>5:1/", "!5");
        composition("2 10;0>1:1-1/;0>2:2-2/", "!2;0>2:1/;0>1:2/", "!0");
        composition("2 100;0>1:1-1/;0>2:2-2/", "!1;0>2:1/;0>1:2/", "!0");
        composition("2 10;0>1:1-1/;0>2:1-1/", "!1;0>1:1/x", "!9;0>9:1/;0>8:1/");
        composition("2 100;0>1:1-1/;0>2:1-1/", "!1;0>1:1/x", "!8;0>9:1/;0>8:1/");
        composition("3 1000;0>1:1-1/;1>2:2-2/;2>3:3-3/", "!3;0>11:1/;11>7:2/;7>3:3/", "!0");
        composition("4 0;0>1:1-1/;0>2:2-2/;1>3:3-3/;2>0:4-4/", "0>5:1/;0>4:2/;5>6:3/;4>0:4/", "");
    }

    private static void order() {
        S.sentence("Composition", "For each pair (p, q), in ascending order of numbers, all rules r of A that "
                + "lead from p are considered in ascending order,");
        composition("3 0;0>1:1-1/;0>0:2-2/;1>0:3-3/", "1>0:3/;0>1:1/;0>0:2/", "");
        composition("3 0;0>0:9-9/;0>0:1-1/;0>0:5-5/", "0>0:9/;0>0:1/;0>0:5/", "");
        composition("5 0;0>1:1-1/;0>2:2-2/;1>0:7-7/;2>0:5-5/;2>0:4-4/",
                "1>0:5/;0>2:1/;2>0:7/;0>1:2/;1>0:4/", "");
        composition("2 0;0>0:1-1/;0>0:1-1/", "0>0:1/;0>0:1/", "");
    }

    private static void sequences() {
        S.sentence("Composition", "and for each of them all sequences of rules of B, one rule for each term "
                + "of r, in which the first one leads from q and each further one from the state to which "
                + "the one before leads, in lexicographic order of their numbers.");
        composition("5 0;0>0:1-1/10,20;0>1:1-1/30,10;0>0:1-1/30,30;1>1:1-1/20,10;1>0:1-1/20,30",
                "0>0:1/1,1", "0>1:1/10;1>0:1/20;0>0:1/30");
        composition("4 0;0>0:1-1/7,7;0>0:1-1/7,8;0>0:1-1/8,7;0>0:1-1/8,8", "0>0:1/x,x", "0>0:1/7;0>0:1/8");
        composition("3 0;0>0:1-1/9;0>0:1-1/8;0>0:1-1/7", "0>0:1/x", "0>0:1/9;0>0:1/8;1>0:1/5;0>0:1/7");
        composition("1 0;0>1:0-0/1,2,3,4,5,6", "0>0:0/1,2,3,4,5,6",
                "6>7:6/6;5>6:5/5;4>5:4/4;3>4:3/3;2>3:2/2;0>2:1/1");
        composition("1 0;0>0:3-3/", "0>0:3/", "0>1:3/;1>1:0-99/5");
        composition("0 0", "0>0:3/x,x", "0>1:3/7");
        composition("0 0", "0>0:3/x,x", "0>1:3/7;0>2:3/;3>0:3/");
        composition("8 0;0>0:1-1/7,7,7;0>0:1-1/7,7,8;0>0:1-1/7,8,7;0>0:1-1/7,8,8;0>0:1-1/8,7,7;"
                + "0>0:1-1/8,7,8;0>0:1-1/8,8,7;0>0:1-1/8,8,8", "0>0:1/x,x,x", "0>0:1/7;0>0:1/8");
    }

    private static void guard() {
        S.sentence("Composition", "The combined guard consists of the symbols for which r is enabled and, for "
                + "each term of r, the rule of the sequence for this term is enabled for its value.");
        composition("1 0;0>0:91-92/1004,909", "0>0:90-99/x+5,x-90", "0>0:96-98,0-2/x-1");
        composition("1 0;0>0:0-99/", "0>0:0-99/", "");
        composition("1 0;0>0:0-98/1001", "0>0:0-99/x+1", "0>0:0-99/x");
        composition("1 0;0>0:0-97/1002", "0>0:0-99/x", "0>0:0-99/x+2");
        composition("1 0;0>0:2-4,6-9/1000", "0>0:2-9/x", "0>0:0-4,6-11/x");
        composition("1 0;0>0:3-3,9-9/997", "0>0:1,3,5,7,9/x-3", "0>0:0-1,6/x");
        composition("1 0;0>0:9-9/995", "0>0:1,3,5,7,9/x-3", "0>0:0-1,6/x-2");
    }

    private static void farOffsets() {
        S.sentence("Composition", "The combined guard consists of the symbols for which r is enabled and, for "
                + "each term of r, the rule of the sequence for this term is enabled for its value.");
        composition("1 0;0>0:0-0/1000", "0>0:0-99/x+99", "0>0:0-99/x-99");
        composition("1 0;0>0:99-99/1000", "0>0:0-99/x-99", "0>0:0-99/x+99");
        composition("1 0;0>0:36-99/1000", "0>0:0-99/x-36", "0>0:0-99/x+36");
        composition("1 0;0>0:0-35/1000", "0>0:0-99/x+64", "0>0:0-99/x-64");
        composition("1 0;0>0:64-99/1000", "0>0:0-99/x-64", "0>0:0-99/x+64");
        composition("1 0;0>0:0-36/1000", "0>0:0-99/x+63", "0>0:0-99/x-63");
        composition("1 0;0>0:63-99/1000", "0>0:0-99/x-63", "0>0:0-99/x+63");
        composition("0 0", "0>0:0-99/x+99", "0>0:0-99/x+1");
        composition("0 0", "0>0:0-99/x-99", "0>0:0-99/x-1");
        composition("1 0;0>0:0-99/0", "0>0:0-99/0", "0>0:0/x");
        composition("1 0;0>0:0-99/99", "0>0:0-99/99", "0>0:99/x");
        composition("0 0", "0>0:0-99/99", "0>0:0-98/x");
        composition("0 0", "0>0:0-99/99", "0>0:99/x+1");
    }

    private static void goal() {
        S.sentence("Composition", "If it is not empty, a rule with this guard is added; it leads from the pair "
                + "to the pair of the state to which r leads and the state to which the last rule of the "
                + "sequence leads, or q if r has no terms, and this pair is found by it.");
        composition("1 0;0>1:2-2/", "0>5:1/3;0>6:2/4", "0>7:4/");
        composition("2 100;0>1:1-1/;1>2:2-2/", "!6;0>5:1/;5>6:2/3", "!7;0>7:3/");
        composition("2 0;0>1:1-1/;1>1:2-2/", "0>5:1/x;5>5:2/", "0>7:1/");
        composition("2 10;0>1:1-1/;0>2:1-1/", "!1;0>1:1/x", "!1;0>1:1/;0>2:1/");
        composition("2 110;0>1:1-1/;0>2:1-1/", "!1;0>1:1/x", "!1;!2;0>1:1/;0>2:1/");
        composition("1 0;0>1:1-1/", "0>3:1/1,2,3", "0>1:1/;1>2:2/;2>3:3/");
        composition("1 0;0>0:1-1/", "0>0:1/1,2,3", "0>1:1/;1>2:2/;2>0:3/");
    }

    private static void terms() {
        S.sentence("Composition", "Its terms are, for each rule of the sequence, its terms in their order, "
                + "where a constant stays, and an offset d is replaced by the constant c + d if the term of "
                + "r is a constant c, and by the offset e + d if it is an offset e.");
        composition("1 0;0>0:10-20/7,999,1003,7,46,50", "0>0:10-20/x+3,50", "0>0:0-99/7,x-4,x");
        composition("1 0;0>0:5-5/", "0>0:5/x,x,x,x,x,x", "0>0:5/");
        composition("1 0;0>0:5-5/1,2,3,4,5,6", "0>0:5/x", "0>0:5/1,2,3,4,5,6");
        composition("1 0;0>0:5-5/1000,1001,1002,1000,1001,1002", "0>0:5/x,x", "0>0:5/x,x+1,x+2");
        composition("1 0;0>0:5-5/5,6,7,9,10,11", "0>0:5/5,9", "0>0:5,9/x,x+1,x+2");
        composition("1 0;0>0:5-5/20,1004,0", "0>0:5/x,9", "0>1:5/20,x+4;1>0:9/x-9");
        composition("1 0;0>0:5-5/0", "0>0:5/99", "0>0:99/x-99");
        composition("1 0;0>0:5-5/99", "0>0:5/0", "0>0:0/x+99");
    }

    private static void sums() {
        S.sentence("Composition", "and by the offset e + d if it is an offset e.");
        composition("1 0;0>0:0-0/1099", "0>0:0-99/x+50", "0>0:0-99/x+49");
        composition("1 0;0>0:99-99/901", "0>0:0-99/x-50", "0>0:0-99/x-49");
        composition("0 0", "0>0:0-99/x+50", "0>0:0-99/x+50");
        composition("1 0;0>0:50-99/950", "0>0:0-99/x-50", "0>0:0-99/x");
        composition("1 0;0>0:0-98/1000", "0>0:0-99/x+1", "0>0:0-99/x-1");
        composition("1 0;0>0:1-99/1000", "0>0:0-99/x-1", "0>0:0-99/x+1");
        S.due("the sums are kept when it is composed again", "1 0;0>0:0-96/1003", () -> {
            TransducerBench x = Check.bench("0>0:0-99/x+1");
            x.compose(0, 0, 1);
            return x.compose(1, 0, 2) + " " + Check.show(x, 2);
        });
    }

    private static void finals() {
        S.sentence("Composition", "A pair is final if both of its states are.");
        composition("0 1", "!0", "!0");
        composition("0 0", "!0", "");
        composition("0 0", "", "!0");
        composition("0 0", "!0", "!1");
        composition("1 10;0>1:1-1/", "!1;0>1:1/x", "!1;0>1:1/");
        composition("1 0;0>1:1-1/", "!1;0>1:1/x", "!0;0>1:1/");
        composition("1 0;0>1:1-1/", "!0;0>1:1/x", "!1;0>1:1/");
        composition("1 1;0>1:1-1/", "!0;0>1:1/x", "!0;0>1:1/");
        composition("1 11;0>1:1-1/", "!0;!1;0>1:1/x", "!0;!1;0>1:1/");
        composition("1 10;0>1:1-1/", "!11;0>11:1/x", "!10;0>10:1/");
        composition("1 0;0>1:1-1/", "!10;0>11:1/x", "!11;0>10:1/");
    }

    private static void target() {
        S.sentence("Promise 30", "`target`: the slot that gets the composition, possibly one of both");
        String a = "!0;!1;0>1:0-9/x+1";
        String b = "!0;!1;0>0:1-5/x,7";
        for (int target = 0; target < 4; target++) {
            int asked = target;
            TransducerBench x = Check.bench(a, b, "!2", "!3;3>3:3/3");
            S.due("into slot " + target, 1, () -> x.compose(0, 1, asked));
            S.due("slot " + target, "11;0>1:0-4/1001,7", () -> Check.show(x, asked));
            S.due("others than " + target, 3, () -> {
                int same = 0;
                String[] looks = {"11;0>1:0-9/1001", "11;0>0:1-5/1000,7", "100", "1000;3>3:3-3/3"};
                for (int slot = 0; slot < 4; slot++) {
                    same += Check.show(x, slot).equals(looks[slot]) ? 1 : 0;
                }
                return same;
            });
        }
        TransducerBench y = Check.bench("!0;0>0:0-9/x+1");
        S.due("all three are one", 1, () -> y.compose(0, 0, 0));
        S.due("which then is", "1;0>0:0-8/1002", () -> Check.show(y, 0));
        S.sentence("Promise 30", "Returns the number of its rules.");
        S.due("none", 0, () -> y.compose(3, 0, 1));
        S.due("one", 1, () -> y.compose(0, 0, 1));
        S.due("four", 4, () -> Check.bench("0>0:1/;0>0:2/;0>0:3/;0>0:4/").compose(0, 1, 2));
    }

    /** Slot 0 goes from the start to all other states; slot 1 stays for a 1 and goes to 1 for a 2. */
    private static TransducerBench star(int constantOfLast) {
        TransducerBench x = Check.bench("!0", "!0;0>0:1/;0>1:2/");
        for (int state = 1; state < 12; state++) {
            x.addRule(0, 0, state, state, state);
            x.addTerm(0, state - 1, false, 1);
        }
        x.addRule(0, 0, 11, 50, 50);
        x.addTerm(0, 11, false, constantOfLast);
        return x;
    }

    private static void twelveStates() {
        S.sentence("Promise 30", "Throws UnsupportedOperationException if it would have more than 12 states");
        S.due("12 pairs", 12, () -> star(1).compose(0, 1, 2));
        S.due("12 pairs, of which the last one is state 11", 11, () -> {
            TransducerBench x = star(1);
            x.compose(0, 1, 2);
            return x.rule(2, 11, 1);
        });
        S.due("13 pairs", UNSUPPORTED, () -> star(2).compose(0, 1, 2));
        S.due("13 pairs, but the rule of the last one has an empty guard", 11,
                () -> star(3).compose(0, 1, 2));
        for (int a = 1; a <= 4; a++) {
            for (int b = 1; b <= 5; b++) {
                TransducerBench x = new TransducerBench();
                cycle(x, 0, a);
                cycle(x, 1, b);
                int pairs = a * b / divisor(a, b);
                S.due("cycles of " + a + " and " + b, pairs > 12 ? UNSUPPORTED : (Object) pairs,
                        () -> x.compose(0, 1, 2));
            }
        }
        S.due("12 states that are one chain", 11, () -> {
            TransducerBench x = new TransducerBench();
            for (int state = 0; state < 11; state++) {
                x.addRule(0, state, state + 1, 0, 0);
            }
            return x.compose(0, 1, 0);
        });
    }

    private static void cycle(TransducerBench x, int slot, int length) {
        for (int state = 0; state < length; state++) {
            x.addRule(slot, state, (state + 1) % length, 5, 5);
            x.addTerm(slot, state, true, 0);
        }
    }

    private static int divisor(int a, int b) {
        return b == 0 ? a : divisor(b, a % b);
    }

    private static void fortyRules() {
        S.sentence("Promise 30", "if it would have more than 12 states or 40 rules,");
        TransducerBench x = Check.bench("0>0:1/x;0>0:2/3");
        for (int i = 0; i < 40; i++) {
            x.addRule(1, 0, 0, 1, 1);
        }
        S.due("40 rules", 40, () -> x.compose(0, 1, 2));
        x.addRange(1, 39, 3, 3);
        S.due("41 rules", UNSUPPORTED, () -> x.compose(0, 1, 2));
        S.due("the 40 stay", 40, () -> x.rules(2));
        x.removeRule(1, 0);
        S.due("39 and 1 rules", 40, () -> x.compose(0, 1, 2));
        S.due("of which the last one is for 2", 2, () -> x.range(2, 39, 0, false));
        S.due("40 rules of A", 40, () -> {
            TransducerBench y = new TransducerBench();
            for (int i = 0; i < 40; i++) {
                y.addRule(0, 0, 11, i, 99);
            }
            return y.compose(0, 1, 0);
        });
        TransducerBench z = Check.bench("0>0:1/x,x", "0>0:1/;0>0:1/;0>0:1/;0>0:1/;0>0:1/;0>0:1/");
        S.due("36 pairs of rules", 36, () -> z.compose(0, 1, 2));
        z.addRule(1, 0, 0, 1, 1);
        S.due("49 pairs of rules", UNSUPPORTED, () -> z.compose(0, 1, 2));
    }

    private static void sixTerms() {
        S.sentence("Promise 30", "or a rule with more than 6 terms");
        composition("1 0;0>0:1-1/1,1,1,2,2,2", "0>0:1/1,2", "0>0:1/1,1,1;0>0:2/2,2,2");
        refused("0>0:1/1,2", "0>0:1/1,1,1;0>0:2/2,2,2,2");
        refused("0>0:1/1,2", "0>0:1/1,1,1,1,1,1;0>0:2/2");
        refused("0>0:1/1,2", "0>0:1/1;0>0:2/2,2,2,2,2,2");
        composition("1 0;0>0:1-1/1,1,1,1,1,1", "0>0:1/1,2", "0>0:1/1,1,1,1,1,1;0>0:2/");
        composition("1 0;0>0:1-1/1,1,1,1,1,1", "0>0:1/1,1,1,1,1,1", "0>0:1/x");
        refused("0>0:1/1,1,1,1,1,1", "0>0:1/x,x");
        refused("0>0:1/1,1,1,1,1,1", "0>0:1/x,x,x,x,x,x");
        refused("0>0:1/x,x;0>0:5/x", "0>0:1/x,x,x,x;0>0:5/x");
        refused("0>0:5/x;0>0:1/x,x", "0>0:5/x;0>0:1/x,x,x,x");
        composition("0 0", "0>0:1/1,3", "0>0:1/1,1,1,1,1,1;0>0:2/1,1,1,1,1,1");
        composition("0 0", "5>5:1/1,1", "0>0:1/1,1,1,1,1,1");
        composition("1 0;0>0:9-9/9", "0>0:1/x+1,x;0>0:9/x", "0>0:1/1,1,1,1;0>0:9/9");
    }

    /** What the composition answers for words, and what both transducers answer one after the other. */
    private static void outputs() {
        S.sentence("Composition", "The composition of the transducers A and B applies A and then B.");
        TransducerBench x = Check.bench("!0;!1;0>1:0-9/x+1,5;1>0:0-9/", "!0;!1;0>1:0-10/x;1>0:5/7,x;1>1:3/");
        x.compose(0, 1, 2);
        int[][] words = {{}, {1}, {1, 1}, {3, 3}, {9, 3, 0, 4}, {5, 3, 3, 3, 2}, {2, 2, 2}};
        for (int[] word : words) {
            for (boolean isLast : new boolean[] {false, true}) {
                Check.word(x, word);
                Object composed = Check.outcome(() -> Check.output(x, 2, isLast));
                Object two = Check.outcome(() -> {
                    x.transduce(0, isLast);
                    x.useResult();
                    return Check.output(x, 1, isLast);
                });
                S.due("word of " + word.length + " symbols", two, () -> composed);
            }
        }
    }
}
