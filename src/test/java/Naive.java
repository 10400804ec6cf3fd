import java.util.ArrayDeque;
import java.util.ArrayList;
import java.util.Collections;
import java.util.Comparator;
import java.util.Deque;
import java.util.HashSet;
import java.util.List;
import java.util.NoSuchElementException;
import java.util.Set;
import java.util.TreeSet;
import java.util.regex.Matcher;
import java.util.regex.Pattern;

/**
 * The document's words once more, as directly as they can be written and with other methods than the
 * class uses: what OracleTest compares the class with. It is slow, and meant for small transducers.
 */
final class Naive {
    static final class Term {
        final boolean isOffset;
        final int value;

        Term(boolean isOffset, int value) {
            this.isOffset = isOffset;
            this.value = value;
        }

        int of(int symbol) {
            return isOffset ? symbol + value : value;
        }
    }

    static final class Rule {
        int from;
        int to;
        TreeSet<Integer> guard = new TreeSet<>();
        List<Term> terms = new ArrayList<>();

        Rule(int from, int to) {
            this.from = from;
            this.to = to;
        }

        Rule twin() {
            Rule twin = new Rule(from, to);
            twin.guard.addAll(guard);
            twin.terms.addAll(terms);
            return twin;
        }

        void add(int low, int high) {
            for (int s = low; s <= high; s++) {
                guard.add(s);
            }
        }

        boolean enabled(int symbol) {
            if (!guard.contains(symbol)) {
                return false;
            }
            for (Term term : terms) {
                if (term.of(symbol) < 0 || term.of(symbol) > 99) {
                    return false;
                }
            }
            return true;
        }

        TreeSet<Integer> enabledSet() {
            TreeSet<Integer> set = new TreeSet<>();
            for (int s = 0; s < 100; s++) {
                if (enabled(s)) {
                    set.add(s);
                }
            }
            return set;
        }

        List<Integer> output(int symbol) {
            List<Integer> output = new ArrayList<>();
            for (Term term : terms) {
                output.add(term.of(symbol));
            }
            return output;
        }
    }

    static final class Machine {
        TreeSet<Integer> finals = new TreeSet<>();
        List<Rule> rules = new ArrayList<>();

        Machine twin() {
            Machine twin = new Machine();
            twin.finals.addAll(finals);
            for (Rule rule : rules) {
                twin.rules.add(rule.twin());
            }
            return twin;
        }
    }

    static final Comparator<List<Integer>> ORDER = (one, other) -> {
        for (int i = 0; i < one.size() && i < other.size(); i++) {
            if (!one.get(i).equals(other.get(i))) {
                return one.get(i) - other.get(i);
            }
        }
        return one.size() - other.size();
    };

    final Machine[] slots = {new Machine(), new Machine(), new Machine(), new Machine()};
    private final Deque<Machine> olds = new ArrayDeque<>();
    private final Deque<Integer> oldSlots = new ArrayDeque<>();
    private String buffer = "";
    List<Integer> word = new ArrayList<>();
    List<Integer> result = new ArrayList<>();

    private static final int MOST_AHEAD = 200;

    private static void argument(boolean holds) {
        if (!holds) {
            throw new IllegalArgumentException();
        }
    }

    private static void index(boolean holds) {
        if (!holds) {
            throw new IndexOutOfBoundsException();
        }
    }

    private static void state(boolean holds) {
        if (!holds) {
            throw new IllegalStateException();
        }
    }

    private static boolean in(int number, int count) {
        return number >= 0 && number < count;
    }

    private void change(int slot, Machine machine) {
        olds.push(slots[slot]);
        oldSlots.push(slot);
        if (olds.size() > 8) {
            olds.removeLast();
            oldSlots.removeLast();
        }
        slots[slot] = machine;
    }

    boolean setFinal(int slot, int st, boolean isFinal) {
        argument(in(slot, 4) && in(st, 12));
        Machine machine = slots[slot].twin();
        boolean was = isFinal ? !machine.finals.add(st) : machine.finals.remove(st);
        change(slot, machine);
        return was;
    }

    int addRule(int slot, int from, int to, int low, int high) {
        argument(in(slot, 4) && in(from, 12) && in(to, 12));
        argument(in(low, 100) && in(high, 100) && low <= high);
        state(slots[slot].rules.size() < 40);
        Machine machine = slots[slot].twin();
        Rule rule = new Rule(from, to);
        rule.add(low, high);
        machine.rules.add(rule);
        change(slot, machine);
        return machine.rules.size() - 1;
    }

    int addRange(int slot, int rule, int low, int high) {
        argument(in(slot, 4) && in(low, 100) && in(high, 100) && low <= high);
        index(in(rule, slots[slot].rules.size()));
        Machine machine = slots[slot].twin();
        machine.rules.get(rule).add(low, high);
        change(slot, machine);
        return machine.rules.get(rule).guard.size();
    }

    int addTerm(int slot, int rule, boolean isOffset, int value) {
        argument(in(slot, 4) && value <= 99 && value >= (isOffset ? -99 : 0));
        index(in(rule, slots[slot].rules.size()));
        state(slots[slot].rules.get(rule).terms.size() < 6);
        Machine machine = slots[slot].twin();
        machine.rules.get(rule).terms.add(new Term(isOffset, value));
        change(slot, machine);
        return machine.rules.get(rule).terms.size();
    }

    int removeRule(int slot, int rule) {
        argument(in(slot, 4));
        index(in(rule, slots[slot].rules.size()));
        Machine machine = slots[slot].twin();
        machine.rules.remove(rule);
        change(slot, machine);
        return machine.rules.size();
    }

    int rules(int slot) {
        argument(in(slot, 4));
        return slots[slot].rules.size();
    }

    int finals(int slot) {
        argument(in(slot, 4));
        int bits = 0;
        for (int st : slots[slot].finals) {
            bits += 1 << st;
        }
        return bits;
    }

    int rule(int slot, int number, int what) {
        argument(in(slot, 4) && in(what, 6));
        index(in(number, slots[slot].rules.size()));
        Rule rule = slots[slot].rules.get(number);
        int[] answers = {rule.from, rule.to, rule.guard.size(), rule.enabledSet().size(),
            rule.terms.size(), ranges(rule).size()};
        return answers[what];
    }

    private static List<int[]> ranges(Rule rule) {
        List<int[]> ranges = new ArrayList<>();
        for (int s : rule.guard) {
            if (ranges.isEmpty() || ranges.get(ranges.size() - 1)[1] != s - 1) {
                ranges.add(new int[] {s, s});
            } else {
                ranges.get(ranges.size() - 1)[1] = s;
            }
        }
        return ranges;
    }

    int range(int slot, int rule, int i, boolean isHigh) {
        argument(in(slot, 4));
        index(in(rule, slots[slot].rules.size()));
        List<int[]> ranges = ranges(slots[slot].rules.get(rule));
        index(in(i, ranges.size()));
        return ranges.get(i)[isHigh ? 1 : 0];
    }

    int term(int slot, int rule, int i) {
        argument(in(slot, 4));
        index(in(rule, slots[slot].rules.size()));
        List<Term> terms = slots[slot].rules.get(rule).terms;
        index(in(i, terms.size()));
        return terms.get(i).isOffset ? 1000 + terms.get(i).value : terms.get(i).value;
    }

    int valueOf(int slot, int rule, int i, int symbol) {
        argument(in(slot, 4) && in(symbol, 100));
        index(in(rule, slots[slot].rules.size()));
        List<Term> terms = slots[slot].rules.get(rule).terms;
        index(in(i, terms.size()));
        return terms.get(i).of(symbol);
    }

    int feed(char letter) {
        state(buffer.length() < 120);
        buffer = buffer + letter;
        return buffer.length();
    }

    private static final String NUMBER = "[0-9][0-9]?";
    private static final String RANGE = NUMBER + "(-" + NUMBER + ")?";
    private static final String TERM = "(" + NUMBER + "|x([+-]" + NUMBER + ")?)";
    private static final String ITEM = "(!" + NUMBER + "|" + NUMBER + ">" + NUMBER + ":" + RANGE
            + "(," + RANGE + ")*/(" + TERM + "(," + TERM + ")*)?)";
    private static final Pattern TEXT = Pattern.compile("(" + ITEM + "(;" + ITEM + ")*)?");

    int parse(int slot) {
        argument(in(slot, 4));
        String text = buffer;
        buffer = "";
        if (!TEXT.matcher(text).matches()) {
            for (int i = 0; i < text.length(); i++) {
                Matcher matcher = TEXT.matcher(text.substring(0, i + 1));
                if (!matcher.matches() && !matcher.hitEnd()) {
                    return -100 - i;
                }
            }
            return -100 - text.length();
        }
        Machine machine = new Machine();
        for (String item : text.isEmpty() ? new String[0] : text.split(";")) {
            readItem(machine, item);
        }
        state(machine.rules.size() <= 40);
        change(slot, machine);
        return machine.rules.size();
    }

    private static void readItem(Machine machine, String item) {
        if (item.startsWith("!")) {
            int st = Integer.parseInt(item.substring(1));
            argument(st < 12);
            machine.finals.add(st);
            return;
        }
        String[] parts = item.split("[>:/]");
        Rule rule = new Rule(Integer.parseInt(parts[0]), Integer.parseInt(parts[1]));
        argument(rule.from < 12 && rule.to < 12);
        for (String range : parts[2].split(",")) {
            String[] ends = range.split("-");
            int low = Integer.parseInt(ends[0]);
            int high = ends.length > 1 ? Integer.parseInt(ends[1]) : low;
            argument(low <= high);
            rule.add(low, high);
        }
        for (String term : parts.length > 3 ? parts[3].split(",") : new String[0]) {
            boolean isOffset = term.startsWith("x");
            String number = isOffset ? term.substring(1) : term;
            rule.terms.add(new Term(isOffset, number.isEmpty() ? 0 : Integer.parseInt(number)));
        }
        argument(rule.terms.size() <= 6);
        machine.rules.add(rule);
    }

    int push(int symbol) {
        argument(in(symbol, 100));
        state(word.size() < 10);
        word.add(symbol);
        return word.size();
    }

    int clearWord() {
        int length = word.size();
        word.clear();
        return length;
    }

    int symbol(int i) {
        index(in(i, word.size()));
        return word.get(i);
    }

    long runs(int slot) {
        argument(in(slot, 4));
        return runsFrom(slots[slot], 0, 0);
    }

    private long runsFrom(Machine machine, int st, int at) {
        if (at == word.size()) {
            return machine.finals.contains(st) ? 1 : 0;
        }
        long sum = 0;
        for (Rule rule : machine.rules) {
            if (rule.from == st && rule.enabled(word.get(at))) {
                sum += runsFrom(machine, rule.to, at + 1);
            }
        }
        return sum;
    }

    static void outputs(
            Machine machine, int st, List<Integer> left, List<Integer> done, TreeSet<List<Integer>> all) {
        if (left.isEmpty()) {
            if (machine.finals.contains(st)) {
                all.add(done);
            }
            return;
        }
        for (Rule rule : machine.rules) {
            if (rule.from == st && rule.enabled(left.get(0))) {
                List<Integer> longer = new ArrayList<>(done);
                longer.addAll(rule.output(left.get(0)));
                outputs(machine, rule.to, left.subList(1, left.size()), longer, all);
            }
        }
    }

    static TreeSet<List<Integer>> outputs(Machine machine, List<Integer> word) {
        TreeSet<List<Integer>> all = new TreeSet<>(ORDER);
        outputs(machine, 0, word, new ArrayList<>(), all);
        return all;
    }

    int transduce(int slot, boolean isLast) {
        argument(in(slot, 4));
        TreeSet<List<Integer>> all = outputs(slots[slot], word);
        if (all.isEmpty()) {
            throw new NoSuchElementException();
        }
        result = isLast ? all.last() : all.first();
        return result.size();
    }

    int result(int i) {
        index(in(i, result.size()));
        return result.get(i);
    }

    int useResult() {
        state(result.size() <= 10);
        word = new ArrayList<>(result);
        return word.size();
    }

    private static Set<Integer> step(Machine machine, Set<Integer> states, int symbol) {
        Set<Integer> next = new TreeSet<>();
        for (Rule rule : machine.rules) {
            if (states.contains(rule.from) && rule.enabled(symbol)) {
                next.add(rule.to);
            }
        }
        return next;
    }

    /** Goes through all words that lead anywhere, so only short lengths are affordable. */
    long domainCount(int slot, int length) {
        argument(in(slot, 4) && in(length, 9));
        return count(slots[slot], Collections.singleton(0), length);
    }

    private static long count(Machine machine, Set<Integer> states, int length) {
        if (length == 0) {
            return Collections.disjoint(states, machine.finals) ? 0 : 1;
        }
        long sum = 0;
        for (int s = 0; s < 100; s++) {
            Set<Integer> next = step(machine, states, s);
            if (!next.isEmpty()) {
                sum += count(machine, next, length - 1);
            }
        }
        return sum;
    }

    double domainShare(int slot, int length) {
        double all = 1;
        for (int i = 0; i < length; i++) {
            all *= 100;
        }
        return (double) domainCount(slot, length) / all;
    }

    /** Breadth first over sets of states in ascending order of symbols. */
    int shortestInput(int slot) {
        argument(in(slot, 4));
        Machine machine = slots[slot];
        Deque<Set<Integer>> queue = new ArrayDeque<>();
        Deque<List<Integer>> words = new ArrayDeque<>();
        Set<Set<Integer>> seen = new HashSet<>();
        queue.add(Collections.singleton(0));
        words.add(new ArrayList<>());
        seen.add(Collections.singleton(0));
        while (!queue.isEmpty()) {
            Set<Integer> states = queue.remove();
            List<Integer> way = words.remove();
            if (!Collections.disjoint(states, machine.finals)) {
                result = way;
                return way.size();
            }
            for (int s = 0; s < 100; s++) {
                Set<Integer> next = step(machine, states, s);
                if (!next.isEmpty() && seen.add(next)) {
                    List<Integer> longer = new ArrayList<>(way);
                    longer.add(s);
                    queue.add(next);
                    words.add(longer);
                }
            }
        }
        throw new NoSuchElementException();
    }

    private static boolean leads(Machine machine, int from, Set<Integer> goals) {
        Set<Integer> seen = new TreeSet<>();
        Deque<Integer> queue = new ArrayDeque<>();
        seen.add(from);
        queue.add(from);
        while (!queue.isEmpty()) {
            int st = queue.remove();
            if (goals.contains(st)) {
                return true;
            }
            for (Rule rule : machine.rules) {
                if (rule.from == st && !rule.enabledSet().isEmpty() && seen.add(rule.to)) {
                    queue.add(rule.to);
                }
            }
        }
        return false;
    }

    private static boolean isUsed(Machine machine, Rule rule) {
        return !rule.enabledSet().isEmpty()
                && leads(machine, 0, Collections.singleton(rule.from))
                && leads(machine, rule.to, machine.finals);
    }

    int outputSymbols(int slot) {
        argument(in(slot, 4));
        Set<Integer> found = new HashSet<>();
        for (Rule rule : slots[slot].rules) {
            if (isUsed(slots[slot], rule)) {
                for (int s : rule.enabledSet()) {
                    found.addAll(rule.output(s));
                }
            }
        }
        return found.size();
    }

    boolean isDeterministic(int slot) {
        argument(in(slot, 4));
        for (int s = 0; s < 100; s++) {
            for (int st = 0; st < 12; st++) {
                int count = 0;
                for (Rule rule : slots[slot].rules) {
                    count += rule.from == st && rule.enabled(s) ? 1 : 0;
                }
                if (count > 1) {
                    return false;
                }
            }
        }
        return true;
    }

    boolean isFunctional(int slot) {
        argument(in(slot, 4));
        return !isDifferent(slots[slot], slots[slot]);
    }

    boolean isEquivalent(int one, int other) {
        argument(in(one, 4) && in(other, 4));
        state(isFunctional(one) && isFunctional(other));
        return isWithin(one, other) && isWithin(other, one)
                && !isDifferent(slots[one], slots[other]);
    }

    boolean isWithin(int one, int other) {
        argument(in(one, 4) && in(other, 4));
        Deque<List<Set<Integer>>> queue = new ArrayDeque<>();
        Set<List<Set<Integer>>> seen = new HashSet<>();
        List<Set<Integer>> start = List.of(Collections.singleton(0), Collections.singleton(0));
        queue.add(start);
        seen.add(start);
        while (!queue.isEmpty()) {
            List<Set<Integer>> both = queue.remove();
            if (!Collections.disjoint(both.get(0), slots[one].finals)
                    && Collections.disjoint(both.get(1), slots[other].finals)) {
                return false;
            }
            for (int s = 0; s < 100; s++) {
                List<Set<Integer>> next =
                        List.of(step(slots[one], both.get(0), s), step(slots[other], both.get(1), s));
                if (seen.add(next)) {
                    queue.add(next);
                }
            }
        }
        return true;
    }

    /**
     * Whether some word has an output of one and another output of the other. It guesses the place
     * at which both differ (or that one is longer) and only counts how far both are from it: no
     * delays are kept, so it shares nothing with the way of the class. Where one is ahead by more than
     * MOST_AHEAD it looks no further, which the transducers of the tests do not need.
     */
    static boolean isDifferent(Machine one, Machine other) {
        int states = 1;
        for (Machine machine : List.of(one, other)) {
            for (Rule rule : machine.rules) {
                states = Math.max(states, Math.max(rule.from, rule.to) + 1);
            }
        }
        int bound = Math.min(12 * states * states, MOST_AHEAD) + 12;
        Deque<int[]> queue = new ArrayDeque<>();
        Set<List<Integer>> seen = new HashSet<>();
        visit(queue, seen, bound, 0, 0, 0, 0, 0);
        while (!queue.isEmpty()) {
            int[] at = queue.remove();
            boolean isEnd = one.finals.contains(at[0]) && other.finals.contains(at[1]);
            if (isEnd && (at[2] == 3 || at[2] == 0 && at[3] != 0)) {
                return true;
            }
            for (Rule rule : one.rules) {
                for (Rule partner : other.rules) {
                    if (rule.from == at[0] && partner.from == at[1]) {
                        for (int s : rule.guard) {
                            if (rule.enabled(s) && partner.enabled(s)) {
                                guess(queue, seen, bound, at, rule, partner, s);
                            }
                        }
                    }
                }
            }
        }
        return false;
    }

    private static void visit(
            Deque<int[]> queue, Set<List<Integer>> seen, int bound, int p, int q, int mode, int d, int a) {
        if (Math.abs(d) <= bound && seen.add(List.of(p, q, mode, d, a))) {
            queue.add(new int[] {p, q, mode, d, a});
        }
    }

    private static void guess(
            Deque<int[]> queue, Set<List<Integer>> seen, int bound, int[] at, Rule rule, Rule partner, int s) {
        List<Integer> u = rule.output(s);
        List<Integer> v = partner.output(s);
        int p = rule.to;
        int q = partner.to;
        int d = at[3];
        if (at[2] == 3) {
            visit(queue, seen, bound, p, q, 3, 0, 0);
        } else if (at[2] > 0) {
            List<Integer> chasing = at[2] == 1 ? v : u;
            if (d >= chasing.size()) {
                visit(queue, seen, bound, p, q, at[2], d - chasing.size(), at[4]);
            } else if (chasing.get(d) != at[4]) {
                visit(queue, seen, bound, p, q, 3, 0, 0);
            }
        } else {
            visit(queue, seen, bound, p, q, 0, d + u.size() - v.size(), 0);
            for (int i = 0; i < u.size(); i++) {
                int place = d + i;
                if (place >= v.size()) {
                    visit(queue, seen, bound, p, q, 1, place - v.size(), u.get(i));
                } else if (place >= 0 && !v.get(place).equals(u.get(i))) {
                    visit(queue, seen, bound, p, q, 3, 0, 0);
                }
            }
            for (int i = 0; i < v.size(); i++) {
                int place = i - d;
                if (place >= u.size()) {
                    visit(queue, seen, bound, p, q, 2, place - u.size(), v.get(i));
                }
            }
        }
    }

    int compose(int a, int b, int target) {
        argument(in(a, 4) && in(b, 4) && in(target, 4));
        Machine machine = composition(slots[a], slots[b]);
        change(target, machine);
        return machine.rules.size();
    }

    private static Machine composition(Machine a, Machine b) {
        Machine machine = new Machine();
        List<List<Integer>> pairs = new ArrayList<>();
        pairs.add(List.of(0, 0));
        for (int n = 0; n < pairs.size(); n++) {
            for (Rule r : a.rules) {
                if (r.from == pairs.get(n).get(0)) {
                    sequences(machine, pairs, n, r, b, new ArrayList<>(), pairs.get(n).get(1));
                }
            }
        }
        for (int n = 0; n < pairs.size(); n++) {
            if (a.finals.contains(pairs.get(n).get(0)) && b.finals.contains(pairs.get(n).get(1))) {
                machine.finals.add(n);
            }
        }
        return machine;
    }

    private static void sequences(Machine machine, List<List<Integer>> pairs, int n, Rule r, Machine b,
            List<Rule> chosen, int st) {
        if (chosen.size() < r.terms.size()) {
            for (Rule next : b.rules) {
                if (next.from == st) {
                    chosen.add(next);
                    sequences(machine, pairs, n, r, b, chosen, next.to);
                    chosen.remove(chosen.size() - 1);
                }
            }
            return;
        }
        Rule rule = new Rule(n, 0);
        for (int s : r.enabledSet()) {
            boolean isTaken = true;
            for (int k = 0; k < chosen.size(); k++) {
                isTaken = isTaken && chosen.get(k).enabled(r.terms.get(k).of(s));
            }
            if (isTaken) {
                rule.guard.add(s);
            }
        }
        if (rule.guard.isEmpty()) {
            return;
        }
        for (int k = 0; k < chosen.size(); k++) {
            Term outer = r.terms.get(k);
            for (Term inner : chosen.get(k).terms) {
                rule.terms.add(inner.isOffset ? new Term(outer.isOffset, outer.value + inner.value) : inner);
            }
        }
        List<Integer> pair = List.of(r.to, st);
        if (!pairs.contains(pair)) {
            pairs.add(pair);
        }
        rule.to = pairs.indexOf(pair);
        machine.rules.add(rule);
        if (pairs.size() > 12 || machine.rules.size() > 40 || rule.terms.size() > 6) {
            throw new UnsupportedOperationException();
        }
    }

    int invert(int slot, int target) {
        argument(in(slot, 4) && in(target, 4));
        Machine machine = new Machine();
        machine.finals.addAll(slots[slot].finals);
        for (Rule rule : slots[slot].rules) {
            state(rule.terms.size() == 1 && rule.terms.get(0).isOffset);
            Rule inverse = new Rule(rule.from, rule.to);
            for (int s : rule.enabledSet()) {
                inverse.guard.addAll(rule.output(s));
            }
            inverse.terms.add(new Term(true, -rule.terms.get(0).value));
            if (!inverse.guard.isEmpty()) {
                machine.rules.add(inverse);
            }
        }
        change(target, machine);
        return machine.rules.size();
    }

    int restrict(int slot, int low, int high) {
        argument(in(slot, 4) && in(low, 100) && in(high, 100) && low <= high);
        Machine machine = slots[slot].twin();
        for (Rule rule : machine.rules) {
            rule.guard.removeIf(s -> s < low || s > high);
        }
        machine.rules.removeIf(rule -> rule.guard.isEmpty());
        int removed = slots[slot].rules.size() - machine.rules.size();
        change(slot, machine);
        return removed;
    }

    int trim(int slot) {
        argument(in(slot, 4));
        Machine machine = slots[slot].twin();
        Machine whole = slots[slot];
        machine.rules.removeIf(rule -> !isUsed(whole, rule));
        int removed = whole.rules.size() - machine.rules.size();
        change(slot, machine);
        return removed;
    }

    int copy(int slot, int target) {
        argument(in(slot, 4) && in(target, 4));
        change(target, slots[slot].twin());
        return slots[target].rules.size();
    }

    int undo() {
        state(!olds.isEmpty());
        int slot = oldSlots.pop();
        slots[slot] = olds.pop();
        return slot;
    }
}
