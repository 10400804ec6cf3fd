import java.util.ArrayList;
import java.util.List;
import java.util.Random;

/** Random runs of calls, each answered by the class and by Naive; every answer must be the same. */
public final class OracleTest {
    private static final int RUNS = 3000;
    private static final int CALLS = 150;

    private final Random random;
    private final TransducerBench bench = new TransducerBench();
    private final Naive naive = new Naive();
    private final List<String> told = new ArrayList<>();
    private final int states;
    private final int lowest;
    private final int symbols;
    private final int mostRules;

    private OracleTest(long seed) {
        random = new Random(seed);
        states = 1 + random.nextInt(4);
        symbols = 1 + random.nextInt(4);
        int[] zones = {0, 1, 30, 61, 62, 63, 64, 94};
        lowest = zones[random.nextInt(zones.length)];
        mostRules = 3 + random.nextInt(8);
    }

    public static void main(String[] args) {
        int runs = args.length > 0 ? Integer.parseInt(args[0]) : RUNS;
        int from = args.length > 1 ? Integer.parseInt(args[1]) : 0;
        for (int seed = from; seed < from + runs; seed++) {
            OracleTest test = new OracleTest(seed);
            if (!test.passes()) {
                System.out.println("seed " + seed + ", the last calls of which the last one differs:");
                int first = Math.max(0, test.told.size() - 60);
                System.out.println(String.join("\n", test.told.subList(first, test.told.size())));
                System.exit(1);
            }
        }
        System.out.println(runs + " random runs agree");
    }

    private boolean passes() {
        for (int i = 0; i < CALLS; i++) {
            if (!agree(random.nextInt(60))) {
                return false;
            }
        }
        return true;
    }

    private boolean same(String call, Check.Call one, Check.Call other) {
        Object got = Check.outcome(one);
        Object want = Check.outcome(other);
        told.add(call + " answered " + got + ", due is " + want);
        return want.equals(got);
    }

    private boolean sameSlots() {
        for (int slot = 0; slot < 4; slot++) {
            int asked = slot;
            if (!same("show " + slot, () -> Check.show(bench, asked), () -> show(asked))) {
                return false;
            }
            told.remove(told.size() - 1);
        }
        return true;
    }

    private String show(int slot) {
        StringBuilder text = new StringBuilder(Integer.toBinaryString(naive.finals(slot)));
        for (int rule = 0; rule < naive.rules(slot); rule++) {
            text.append(';').append(naive.rule(slot, rule, 0));
            text.append('>').append(naive.rule(slot, rule, 1)).append(':');
            for (int i = 0; i < naive.rule(slot, rule, 5); i++) {
                text.append(i > 0 ? "," : "").append(naive.range(slot, rule, i, false));
                text.append('-').append(naive.range(slot, rule, i, true));
            }
            text.append('/');
            for (int i = 0; i < naive.rule(slot, rule, 4); i++) {
                text.append(i > 0 ? "," : "").append(naive.term(slot, rule, i));
            }
        }
        return text.toString();
    }

    /** A number below the count; now and then one that is not. */
    private int some(int count) {
        if (random.nextInt(40) == 0) {
            int[] wrong = {-1, count, count + 1, Integer.MIN_VALUE, Integer.MAX_VALUE, -100, 100};
            return wrong[random.nextInt(wrong.length)];
        }
        return random.nextInt(Math.max(count, 1));
    }

    private int someState() {
        return random.nextInt(60) == 0 ? some(12) : random.nextInt(states);
    }

    private int someSymbol() {
        return random.nextInt(60) == 0 ? some(100) : lowest + random.nextInt(symbols);
    }

    private int someRule(int slot) {
        return some(slot >= 0 && slot < 4 ? naive.rules(slot) : 1);
    }

    private boolean isSmall(int slot) {
        if (slot < 0 || slot > 3) {
            return true;
        }
        int size = 0;
        for (Naive.Rule rule : naive.slots[slot].rules) {
            size += rule.guard.size() * (1 + rule.terms.size());
        }
        return size <= 90;
    }

    private boolean agree(int kind) {
        int slot = some(3);
        if (kind < 12) {
            return agreeOnRule(kind, slot) && sameSlots();
        }
        if (kind < 18) {
            return agreeOnText(slot) && sameSlots();
        }
        if (kind < 26) {
            return agreeOnWord(kind);
        }
        if (kind < 36) {
            return agreeOnRead(kind, slot);
        }
        if (kind < 42) {
            return agreeOnOperation(kind, slot, some(4), some(4)) && sameSlots();
        }
        return agreeOnQuestion(kind, slot, some(3));
    }

    private boolean agreeOnRule(int kind, int slot) {
        int rule = someRule(slot);
        int low = someSymbol();
        int high = random.nextInt(20) == 0 ? someSymbol() : Math.max(low, someSymbol());
        boolean flag = random.nextInt(3) > 0;
        if (kind < 2) {
            int st = someState();
            return same("setFinal " + slot + " " + st + " " + flag,
                    () -> bench.setFinal(slot, st, flag), () -> naive.setFinal(slot, st, flag));
        }
        if (kind < 6) {
            if (slot >= 0 && slot < 4 && naive.rules(slot) >= mostRules) {
                return same("removeRule " + slot + " " + rule,
                        () -> bench.removeRule(slot, rule), () -> naive.removeRule(slot, rule));
            }
            int from = someState();
            int to = someState();
            return same("addRule " + slot + " " + from + " " + to + " " + low + " " + high,
                    () -> bench.addRule(slot, from, to, low, high),
                    () -> naive.addRule(slot, from, to, low, high));
        }
        if (kind < 8) {
            return same("addRange " + slot + " " + rule + " " + low + " " + high,
                    () -> bench.addRange(slot, rule, low, high),
                    () -> naive.addRange(slot, rule, low, high));
        }
        int value = random.nextInt(30) == 0 ? random.nextInt(220) - 110
                : flag ? random.nextInt(5) - 2 : lowest + random.nextInt(symbols);
        return same("addTerm " + slot + " " + rule + " " + flag + " " + value,
                () -> bench.addTerm(slot, rule, flag, value),
                () -> naive.addTerm(slot, rule, flag, value));
    }

    private String someText() {
        StringBuilder text = new StringBuilder();
        int items = random.nextInt(5);
        for (int i = 0; i < items; i++) {
            text.append(i > 0 ? ";" : "");
            if (random.nextInt(3) == 0) {
                text.append('!').append(random.nextInt(30) == 0 ? 12 : random.nextInt(states));
                continue;
            }
            text.append(random.nextInt(40) == 0 ? 12 : random.nextInt(states));
            text.append('>').append(random.nextInt(states)).append(':');
            int ranges = 1 + random.nextInt(2);
            for (int k = 0; k < ranges; k++) {
                int low = lowest + random.nextInt(symbols);
                text.append(k > 0 ? "," : "").append(low);
                if (random.nextBoolean()) {
                    text.append('-').append(low + random.nextInt(symbols)
                            - (random.nextInt(30) == 0 ? 1 : 0));
                }
            }
            text.append('/');
            int terms = random.nextInt(40) == 0 ? 7 : random.nextInt(4);
            for (int k = 0; k < terms; k++) {
                text.append(k > 0 ? "," : "");
                String[] forms = {"x", "x+1", "x-1", "x+0", "" + (lowest + random.nextInt(symbols)), "07"};
                text.append(forms[random.nextInt(forms.length)]);
            }
        }
        if (random.nextInt(3) == 0 && text.length() > 0) {
            String letters = "!;>:,/-+x0123456789 y";
            char letter = letters.charAt(random.nextInt(letters.length()));
            int at = random.nextInt(text.length());
            int way = random.nextInt(4);
            if (way == 0) {
                text.setCharAt(at, letter);
            } else if (way == 1) {
                text.insert(at, letter);
            } else if (way == 2) {
                text.deleteCharAt(at);
            } else {
                text.setLength(at);
            }
        }
        return text.toString();
    }

    private boolean agreeOnText(int slot) {
        String text = someText();
        for (int i = 0; i < text.length(); i++) {
            char letter = text.charAt(i);
            if (!same("feed " + letter, () -> bench.feed(letter), () -> naive.feed(letter))) {
                return false;
            }
            told.remove(told.size() - 1);
        }
        return same("parse " + slot + " of " + text, () -> bench.parse(slot), () -> naive.parse(slot));
    }

    private boolean agreeOnWord(int kind) {
        int symbol = someSymbol();
        int i = some(10);
        if (kind < 22) {
            if (naive.word.size() >= 6 && random.nextInt(10) > 0) {
                return same("clearWord", () -> bench.clearWord(), () -> naive.clearWord());
            }
            return same("push " + symbol, () -> bench.push(symbol), () -> naive.push(symbol));
        }
        if (kind < 23) {
            return same("symbol " + i, () -> bench.symbol(i), () -> naive.symbol(i));
        }
        if (kind < 25) {
            return same("result " + i, () -> bench.result(i), () -> naive.result(i));
        }
        return same("useResult", () -> bench.useResult(), () -> naive.useResult());
    }

    private boolean agreeOnRead(int kind, int slot) {
        int rule = someRule(slot);
        int i = some(4);
        boolean flag = random.nextBoolean();
        int symbol = random.nextBoolean() ? some(100) : someSymbol();
        if (kind < 27) {
            return same("rules " + slot, () -> bench.rules(slot), () -> naive.rules(slot));
        }
        if (kind < 28) {
            return same("finals " + slot, () -> bench.finals(slot), () -> naive.finals(slot));
        }
        if (kind < 30) {
            int what = some(6);
            return same("rule " + slot + " " + rule + " " + what,
                    () -> bench.rule(slot, rule, what), () -> naive.rule(slot, rule, what));
        }
        if (kind < 32) {
            return same("range " + slot + " " + rule + " " + i + " " + flag,
                    () -> bench.range(slot, rule, i, flag), () -> naive.range(slot, rule, i, flag));
        }
        if (kind < 34) {
            return same("term " + slot + " " + rule + " " + i,
                    () -> bench.term(slot, rule, i), () -> naive.term(slot, rule, i));
        }
        return same("valueOf " + slot + " " + rule + " " + i + " " + symbol,
                () -> bench.valueOf(slot, rule, i, symbol), () -> naive.valueOf(slot, rule, i, symbol));
    }

    private boolean agreeOnOperation(int kind, int slot, int other, int target) {
        String slots = " " + slot + " " + other + " " + target;
        int low = someSymbol();
        int high = random.nextInt(10) == 0 ? someSymbol() : Math.max(low, someSymbol());
        switch (kind) {
            case 36:
                return same("compose" + slots,
                        () -> bench.compose(slot, other, target),
                        () -> naive.compose(slot, other, target));
            case 37:
                return same("invert" + slots,
                        () -> bench.invert(slot, target), () -> naive.invert(slot, target));
            case 38:
                return random.nextInt(3) > 0 || same("restrict " + slot + " " + low + " " + high,
                        () -> bench.restrict(slot, low, high), () -> naive.restrict(slot, low, high));
            case 39:
                return random.nextInt(3) > 0 || same("trim " + slot,
                        () -> bench.trim(slot), () -> naive.trim(slot));
            case 40:
                return random.nextInt(3) > 0 || same("copy" + slots,
                        () -> bench.copy(slot, target), () -> naive.copy(slot, target));
            default:
                int times = random.nextInt(6) == 0 ? 9 : 1;
                for (int i = 0; i < times; i++) {
                    if (!same("undo", () -> bench.undo(), () -> naive.undo())) {
                        return false;
                    }
                }
                return true;
        }
    }

    private boolean sameResult() {
        return same("result", () -> Check.showResult(bench, naive.result.size()),
                () -> naive.result.toString().replaceAll("[^0-9 ]", ""))
                && same("beyond result", () -> bench.result(naive.result.size()),
                        () -> naive.result(naive.result.size()));
    }

    private boolean agreeOnQuestion(int kind, int slot, int other) {
        String slots = " " + slot + " " + other;
        boolean flag = random.nextBoolean();
        if (!isSmall(slot) || !isSmall(other)) {
            return true;
        }
        int length = random.nextInt(30) == 0 ? -1 - random.nextInt(2) * -10 : random.nextInt(5);
        switch (kind) {
            case 42: case 43:
                return naive.word.size() > 7 || same("runs " + slot,
                        () -> bench.runs(slot), () -> naive.runs(slot));
            case 44: case 45: case 46:
                return naive.word.size() > 7 || same("transduce " + slot + " " + flag,
                        () -> bench.transduce(slot, flag), () -> naive.transduce(slot, flag))
                        && sameResult();
            case 47: case 48:
                return same("domainCount " + slot + " " + length,
                        () -> bench.domainCount(slot, length), () -> naive.domainCount(slot, length));
            case 49:
                return same("domainShare " + slot + " " + length,
                        () -> bench.domainShare(slot, length), () -> naive.domainShare(slot, length));
            case 50: case 51:
                return same("shortestInput " + slot,
                        () -> bench.shortestInput(slot), () -> naive.shortestInput(slot)) && sameResult();
            case 52:
                return same("outputSymbols " + slot,
                        () -> bench.outputSymbols(slot), () -> naive.outputSymbols(slot));
            case 53:
                return same("isDeterministic " + slot,
                        () -> bench.isDeterministic(slot), () -> naive.isDeterministic(slot));
            case 54: case 55:
                return same("isFunctional " + slot,
                        () -> bench.isFunctional(slot), () -> naive.isFunctional(slot));
            case 56: case 57:
                return same("isEquivalent" + slots,
                        () -> bench.isEquivalent(slot, other), () -> naive.isEquivalent(slot, other));
            default:
                return same("isWithin" + slots,
                        () -> bench.isWithin(slot, other), () -> naive.isWithin(slot, other));
        }
    }
}
