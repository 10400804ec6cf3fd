import java.util.Random;

/**
 * Very many small transducers, of a few states and rules over one or two symbols, so that nearly every
 * shape occurs: the answers about domains and outputs are compared with Naive.
 */
public final class SmallTest {
    private static final int ROUNDS = 10000;

    private final Random random;
    private final TransducerBench bench = new TransducerBench();
    private final Naive naive = new Naive();
    private final int states;
    private final int symbols;
    private final int mostTerms;

    private SmallTest(long seed) {
        random = new Random(seed);
        states = 2 + random.nextInt(4);
        symbols = 1 + random.nextInt(2);
        mostTerms = random.nextInt(3);
    }

    public static void main(String[] args) {
        Check check = new Check();
        int functional = 0;
        int equivalent = 0;
        for (int seed = 0; seed < ROUNDS; seed++) {
            SmallTest test = new SmallTest(seed);
            test.fill(0);
            test.fill(1);
            functional += test.naive.isFunctional(0) ? 1 : 0;
            equivalent += Check.outcome(() -> test.naive.isEquivalent(0, 1)).equals(true) ? 1 : 0;
            test.compare(check, "seed " + seed + ": ");
        }
        System.out.println(functional + " functional, " + equivalent + " equivalent");
        check.end();
    }

    private void fill(int slot) {
        int rules = 1 + random.nextInt(6);
        for (int i = 0; i < rules; i++) {
            int from = random.nextInt(states);
            int to = random.nextInt(states);
            int low = random.nextInt(symbols);
            int high = low + random.nextInt(symbols - low);
            bench.addRule(slot, from, to, low, high);
            naive.addRule(slot, from, to, low, high);
            for (int k = random.nextInt(mostTerms + 1); k > 0; k--) {
                int value = random.nextInt(2);
                boolean isOffset = random.nextInt(5) == 0;
                bench.addTerm(slot, i, isOffset, value);
                naive.addTerm(slot, i, isOffset, value);
            }
        }
        for (int i = 0; i <= random.nextInt(2); i++) {
            int state = random.nextInt(states);
            bench.setFinal(slot, state, true);
            naive.setFinal(slot, state, true);
        }
    }

    private void compare(Check check, String seed) {
        for (int slot = 0; slot < 2; slot++) {
            int one = slot;
            int other = 1 - slot;
            check.due(seed + "isFunctional " + one, naive.isFunctional(one), () -> bench.isFunctional(one));
            check.due(seed + "isEquivalent " + one + " " + other,
                    Check.outcome(() -> naive.isEquivalent(one, other)), () -> bench.isEquivalent(one, other));
            check.due(seed + "isWithin " + one + " " + other, naive.isWithin(one, other),
                    () -> bench.isWithin(one, other));
            check.due(seed + "outputSymbols " + one, naive.outputSymbols(one), () -> bench.outputSymbols(one));
            check.due(seed + "compose " + one + " " + other,
                    Check.outcome(() -> naive.compose(one, other, 2)), () -> bench.compose(one, other, 2));
            check.due(seed + "trim " + one, naive.trim(one), () -> bench.trim(one));
        }
    }
}
