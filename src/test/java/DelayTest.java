import java.util.ArrayList;
import java.util.List;
import java.util.Random;

/**
 * Functionality and equivalence where runs put out the same word at different times. A symbol is
 * answered by a block of its own; a state remembers the symbol before and how much of the end of its
 * block is still held back. So all runs on a word put out the same, unless a rule is spoilt by a term
 * more, less or another one. The answers are compared with Naive.
 */
public final class DelayTest {
    private static final int ROUNDS = 700;
    private static final int[][] BLOCKS = {{50, 51, 52}, {51, 52, 50}, {50, 51, 50, 51}};
    private static final int MOST_HELD = 3;

    private final Random random;
    private final TransducerBench bench = new TransducerBench();
    private final Naive naive = new Naive();

    private DelayTest(long seed) {
        random = new Random(seed);
    }

    public static void main(String[] args) {
        Check check = new Check();
        int functional = 0;
        int equivalent = 0;
        for (int seed = 0; seed < ROUNDS; seed++) {
            DelayTest test = new DelayTest(seed);
            boolean isSpoilt = seed % 2 == 1;
            test.fill(0, isSpoilt);
            test.fill(1, false);
            Object isFunctional = Check.outcome(() -> test.naive.isFunctional(0));
            Object isEquivalent = Check.outcome(() -> test.naive.isEquivalent(0, 1));
            check.due("functional, seed " + seed, isFunctional, () -> test.bench.isFunctional(0));
            check.due("equivalent, seed " + seed, isEquivalent, () -> test.bench.isEquivalent(0, 1));
            check.due("equivalent the other way, seed " + seed, isEquivalent,
                    () -> test.bench.isEquivalent(1, 0));
            functional += isFunctional.equals(true) ? 1 : 0;
            equivalent += isEquivalent.equals(true) ? 1 : 0;
        }
        System.out.println(functional + " functional, " + equivalent + " equivalent");
        check.end();
    }

    private static int state(int symbol, int held) {
        return 1 + symbol * MOST_HELD + held;
    }

    /** All rules that hold nothing back, so that the domain is all words, and some that do. */
    private void fill(int slot, boolean isSpoilt) {
        setFinal(slot, 0);
        for (int symbol = 0; symbol < 3; symbol++) {
            setFinal(slot, state(symbol, 0));
        }
        List<int[]> rules = new ArrayList<>();
        for (int next = 0; next < 3; next++) {
            rules.add(new int[] {-1, 0, next, 0});
            for (int symbol = 0; symbol < 3; symbol++) {
                rules.add(new int[] {symbol, 0, next, 0});
            }
        }
        for (int i = 0; i < 22; i++) {
            rules.add(new int[] {random.nextInt(4) - 1, random.nextInt(MOST_HELD), random.nextInt(3),
                random.nextInt(MOST_HELD)});
        }
        int spoilt = isSpoilt ? random.nextInt(rules.size()) : -1;
        for (int i = 0; i < rules.size(); i++) {
            addRule(slot, rules.get(i), i == spoilt);
        }
    }

    private void setFinal(int slot, int state) {
        bench.setFinal(slot, state, true);
        naive.setFinal(slot, state, true);
    }

    private void addRule(int slot, int[] rule, boolean isSpoilt) {
        int held = rule[0] < 0 ? 0 : rule[1];
        int from = rule[0] < 0 ? 0 : state(rule[0], held);
        List<Integer> terms = new ArrayList<>();
        for (int i = held; i > 0; i--) {
            terms.add(BLOCKS[rule[0]][BLOCKS[rule[0]].length - i]);
        }
        for (int i = 0; i < BLOCKS[rule[2]].length - rule[3]; i++) {
            terms.add(BLOCKS[rule[2]][i]);
        }
        if (isSpoilt) {
            spoil(terms);
        }
        int number = bench.addRule(slot, from, state(rule[2], rule[3]), rule[2], rule[2]);
        naive.addRule(slot, from, state(rule[2], rule[3]), rule[2], rule[2]);
        for (int term : terms) {
            boolean isOffset = random.nextBoolean();
            int value = isOffset ? term - rule[2] : term;
            bench.addTerm(slot, number, isOffset, value);
            naive.addTerm(slot, number, isOffset, value);
        }
    }

    private void spoil(List<Integer> terms) {
        int way = random.nextInt(4);
        if (way == 0 && terms.size() < 6) {
            terms.add(random.nextInt(terms.size() + 1), 50 + random.nextInt(3));
        } else if (way == 1) {
            terms.remove(random.nextInt(terms.size()));
        } else if (way == 2) {
            terms.set(random.nextInt(terms.size()), 50 + random.nextInt(3));
        } else {
            terms.add(terms.remove(0));
        }
    }
}
