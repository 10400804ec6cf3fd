import java.util.Random;

/**
 * Questions about domains for transducers with many rules for few symbols, whose words lead to many
 * sets of states; several questions to one object, so that one leaves nothing behind for the next.
 * The answers are compared with Naive.
 */
public final class SetsTest {
    private static final int ROUNDS = 600;

    public static void main(String[] args) {
        Check check = new Check();
        int within = 0;
        for (int seed = 0; seed < ROUNDS; seed++) {
            Random random = new Random(seed);
            TransducerBench bench = new TransducerBench();
            Naive naive = new Naive();
            int states = 2 + random.nextInt(7);
            int symbols = 1 + random.nextInt(3);
            for (int slot = 0; slot < 3; slot++) {
                fill(bench, naive, random, slot, states, symbols);
            }
            for (int i = 0; i < 8; i++) {
                int one = random.nextInt(3);
                int other = random.nextInt(3);
                int length = random.nextInt(symbols > 2 ? 6 : 9);
                boolean isWithin = naive.isWithin(one, other);
                within += isWithin ? 1 : 0;
                String what = "seed " + seed + ": ";
                check.due(what + "isWithin " + one + " " + other, isWithin,
                        () -> bench.isWithin(one, other));
                check.due(what + "domainCount " + one + " " + length, naive.domainCount(one, length),
                        () -> bench.domainCount(one, length));
                check.due(what + "shortestInput " + other,
                        Check.outcome(() -> naive.shortestInput(other)), () -> bench.shortestInput(other));
                int size = naive.result.size();
                check.due(what + "its symbols", naive.result.toString().replaceAll("[^0-9 ]", ""),
                        () -> Check.showResult(bench, size));
            }
        }
        System.out.println(within + " within");
        check.end();
    }

    /** The last slot gets the rules of the first one and some more, so that it often contains it. */
    private static void fill(
            TransducerBench bench, Naive naive, Random random, int slot, int states, int symbols) {
        if (slot == 2) {
            bench.copy(0, 2);
            naive.copy(0, 2);
        }
        int rules = slot == 2 ? 3 : 3 + random.nextInt(3 * states);
        for (int i = 0; i < rules; i++) {
            int from = random.nextInt(states);
            int to = random.nextInt(states);
            int low = 62 + random.nextInt(symbols);
            int high = random.nextInt(4) == 0 ? 62 + symbols - 1 : low;
            bench.addRule(slot, from, to, low, high);
            naive.addRule(slot, from, to, low, high);
        }
        for (int i = 0; i < 1 + states / 3; i++) {
            int state = random.nextInt(states);
            bench.setFinal(slot, state, true);
            naive.setFinal(slot, state, true);
        }
    }
}
