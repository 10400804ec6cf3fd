import java.util.Random;

/**
 * Functionality and equivalence of transducers whose runs put out the same word at different times:
 * a state has a number of symbols that are put out ahead of time there, so that most are functional.
 * Some are spoilt by a term more or less or by another symbol. The answers are compared with Naive.
 */
public final class DelayTest {
    private static final int ROUNDS = 1500;

    private final Random random;
    private final int states;
    private final StringBuilder one = new StringBuilder();
    private final StringBuilder other = new StringBuilder();

    private DelayTest(long seed) {
        random = new Random(seed);
        states = 2 + random.nextInt(4);
        int[] ahead = someAhead();
        int[] otherAhead = someAhead();
        appendFinals(ahead, otherAhead);
        int rules = 3 + random.nextInt(5);
        for (int i = 0; i < rules; i++) {
            int from = i < 2 ? 0 : random.nextInt(states);
            int to = random.nextInt(states);
            int symbol = 1 + random.nextInt(2);
            appendRule(one, from, to, symbol, symbol + 1 + ahead[to] - ahead[from]);
            appendRule(other, from, to, symbol, symbol + 1 + otherAhead[to] - otherAhead[from]);
        }
    }

    private int[] someAhead() {
        int[] ahead = new int[states];
        for (int i = 1; i < states; i++) {
            ahead[i] = random.nextInt(3);
        }
        return ahead;
    }

    private void appendFinals(int[] ahead, int[] otherAhead) {
        for (int i = 1; i < states; i++) {
            if (i == states - 1 || random.nextInt(3) == 0) {
                ahead[i] = 0;
                otherAhead[i] = 0;
                one.append('!').append(i).append(';');
                other.append('!').append(i).append(';');
            }
        }
    }

    private void appendRule(StringBuilder text, int from, int to, int symbol, int terms) {
        int count = Math.max(0, random.nextInt(15) == 0 ? terms + random.nextInt(3) - 1 : terms);
        text.append(from).append('>').append(to).append(':').append(symbol).append('/');
        for (int i = 0; i < Math.min(count, 6); i++) {
            text.append(i > 0 ? "," : "").append(random.nextInt(60) == 0 ? "8" : "7");
        }
        text.append(';');
    }

    private static String text(StringBuilder items) {
        return items.substring(0, items.length() - 1);
    }

    public static void main(String[] args) {
        Check check = new Check();
        int functional = 0;
        int equivalent = 0;
        for (int seed = 0; seed < ROUNDS; seed++) {
            DelayTest test = new DelayTest(seed);
            String one = text(test.one);
            String other = text(test.other);
            if (one.length() > 120 || other.length() > 120) {
                continue;
            }
            TransducerBench bench = Check.bench(one, other);
            Naive naive = new Naive();
            read(naive, 0, one);
            read(naive, 1, other);
            Object isFunctional = Check.outcome(() -> naive.isFunctional(0));
            Object isEquivalent = Check.outcome(() -> naive.isEquivalent(0, 1));
            check.due("functional " + one, isFunctional, () -> bench.isFunctional(0));
            check.due("equivalent " + one + " and " + other, isEquivalent, () -> bench.isEquivalent(0, 1));
            functional += isFunctional.equals(true) ? 1 : 0;
            equivalent += isEquivalent.equals(true) ? 1 : 0;
        }
        System.out.println(functional + " functional, " + equivalent + " equivalent");
        check.end();
    }

    private static void read(Naive naive, int slot, String text) {
        for (char letter : text.toCharArray()) {
            naive.feed(letter);
        }
        naive.parse(slot);
    }
}
