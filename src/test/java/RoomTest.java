import com.sun.management.ThreadMXBean;
import java.lang.management.ManagementFactory;
import java.lang.reflect.Array;
import java.lang.reflect.Field;
import java.lang.reflect.Modifier;
import java.util.ArrayDeque;
import java.util.Collections;
import java.util.Deque;
import java.util.IdentityHashMap;
import java.util.Set;

/** What an object and its dearest calls make: all of a run must fit into one room. */
public final class RoomTest {
    private static final int CALLS = 512;
    private static final int MOST_OBJECTS = 2500;
    private static final int MOST_ELEMENTS = 60000;
    private static final long MOST_LATER_BYTES = 600000;

    public static void main(String[] args) throws IllegalAccessException {
        Check check = new Check();
        TransducerBench bench = dear();
        int[] size = size(bench);
        System.out.println("objects " + size[0] + ", fields and elements " + size[1]);
        check.due("objects of a bench", true, () -> size[0] <= MOST_OBJECTS);
        check.due("fields and elements of a bench", true, () -> size[1] <= MOST_ELEMENTS);
        ThreadMXBean threads = (ThreadMXBean) ManagementFactory.getThreadMXBean();
        threads.getThreadAllocatedBytes(Thread.currentThread().getId());
        long before = threads.getThreadAllocatedBytes(Thread.currentThread().getId());
        long sum = 0;
        for (int i = 0; i < CALLS; i++) {
            sum += call(bench, i % 14);
        }
        long bytes = threads.getThreadAllocatedBytes(Thread.currentThread().getId()) - before;
        System.out.println("bytes of " + CALLS + " dear calls " + bytes + " (" + sum + ")");
        check.due("what dear calls make", true, () -> bytes <= MOST_LATER_BYTES);
        check.end();
    }

    /** Slot 0 meets very many sets of states, slot 1 has long delays, slot 2 composes with itself. */
    private static TransducerBench dear() {
        TransducerBench bench = new TransducerBench();
        for (int i = 0; i < 11; i++) {
            bench.addRule(0, i, i + 1, 1, 99);
            bench.addRule(0, i + 1, i, 0, 60);
            bench.addRule(0, i, 0, 50 + i, 70 + i);
        }
        bench.addRule(0, 0, 0, 0, 99);
        bench.setFinal(0, 11, true);
        for (int i = 0; i < 11; i++) {
            addSixTerms(bench, i == 0 ? 0 : i, i < 5 ? i + 1 : i == 5 ? 1 : i < 11 ? i + 1 : 6);
        }
        bench.addRule(1, 0, 6, 0, 99);
        bench.addRule(1, 11, 6, 0, 99);
        bench.setFinal(1, 5, true);
        bench.setFinal(1, 11, true);
        Check.read(bench, 2, "!0;0>0:0-99/x,x;0>0:1-50/x,1");
        Check.word(bench, 1, 2, 3, 4, 5, 6, 7, 8, 9, 10);
        return bench;
    }

    private static void addSixTerms(TransducerBench bench, int from, int to) {
        int rule = bench.addRule(1, from, to, 0, 99);
        for (int k = 0; k < 6 && from < 6; k++) {
            bench.addTerm(1, rule, false, 7);
        }
    }

    private static long call(TransducerBench bench, int kind) {
        switch (kind) {
            case 0:
                return bench.domainCount(0, 8);
            case 1:
                return bench.isWithin(0, 0) ? 1 : 0;
            case 2:
                return bench.isFunctional(0) ? 1 : 0;
            case 3:
                return bench.isFunctional(1) ? 1 : 0;
            case 4:
                return bench.isEquivalent(0, 0) ? 1 : 0;
            case 5:
                return bench.compose(2, 2, 3);
            case 6:
                return bench.transduce(2, true);
            case 7:
                return bench.runs(2);
            case 8:
                return bench.shortestInput(0);
            case 9:
                return bench.outputSymbols(1);
            case 10:
                return bench.trim(0);
            case 11:
                return bench.copy(0, 3);
            case 12:
                return bench.isDeterministic(0) ? 1 : 0;
            default:
                return bench.undo();
        }
    }

    private static int[] size(Object root) throws IllegalAccessException {
        Set<Object> seen = Collections.newSetFromMap(new IdentityHashMap<>());
        Deque<Object> queue = new ArrayDeque<>();
        queue.add(root);
        seen.add(root);
        int elements = 0;
        while (!queue.isEmpty()) {
            Object at = queue.remove();
            if (at.getClass().isArray()) {
                elements += Array.getLength(at);
                for (int i = 0; i < Array.getLength(at) && at instanceof Object[]; i++) {
                    add(queue, seen, Array.get(at, i));
                }
                continue;
            }
            for (Field field : at.getClass().getDeclaredFields()) {
                if (!Modifier.isStatic(field.getModifiers())) {
                    elements++;
                    field.setAccessible(true);
                    if (!field.getType().isPrimitive()) {
                        add(queue, seen, field.get(at));
                    }
                }
            }
        }
        return new int[] {seen.size(), elements};
    }

    private static void add(Deque<Object> queue, Set<Object> seen, Object found) {
        if (found != null && seen.add(found)) {
            queue.add(found);
        }
    }
}
