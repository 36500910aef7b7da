import java.lang.management.ManagementFactory;
import java.lang.reflect.Array;
import java.lang.reflect.Field;
import java.lang.reflect.Modifier;
import java.util.ArrayDeque;
import java.util.Collections;
import java.util.Deque;
import java.util.IdentityHashMap;
import java.util.Set;

/** All that a run needs is made by the constructor: the calls make nothing. */
public final class RoomTest {
    private static long answers = 0;

    public static void main(String[] args) throws Exception {
        Due due = new Due("RoomTest");
        held(due, new CopyBench());
        calls(new CopyBench());
        CopyBench bench = new CopyBench();
        com.sun.management.ThreadMXBean thread =
            (com.sun.management.ThreadMXBean) ManagementFactory.getThreadMXBean();
        thread.getThreadAllocatedBytes(Thread.currentThread().getId());
        long before = thread.getThreadAllocatedBytes(Thread.currentThread().getId());
        calls(bench);
        long after = thread.getThreadAllocatedBytes(Thread.currentThread().getId());
        // Measuring takes some bytes itself.
        due.holds("no bytes made: " + (after - before), after - before < 1000);
        due.holds("the calls answered", answers != 0);
        due.end();
    }

    private static void held(Due due, Object bench) throws Exception {
        Set<Object> seen = Collections.newSetFromMap(new IdentityHashMap<>());
        Deque<Object> open = new ArrayDeque<>();
        open.add(bench);
        long elements = 0;
        while (!open.isEmpty()) {
            Object one = open.remove();
            if (seen.add(one)) {
                elements += one.getClass().isArray() ? walkArray(one, open) : walkFields(one, open);
            }
        }
        due.holds("objects: " + seen.size(), seen.size() < 300);
        due.holds("elements: " + elements, elements < 3000);
    }

    private static long walkArray(Object one, Deque<Object> open) {
        int length = Array.getLength(one);
        for (int i = 0; i < length && !one.getClass().getComponentType().isPrimitive(); i++) {
            open.add(Array.get(one, i));
        }
        return length;
    }

    private static long walkFields(Object one, Deque<Object> open) throws Exception {
        long fields = 0;
        for (Field field : one.getClass().getDeclaredFields()) {
            if (!Modifier.isStatic(field.getModifiers())) {
                fields++;
                field.setAccessible(true);
                if (!field.getType().isPrimitive()) {
                    open.add(field.get(one));
                }
            }
        }
        return fields;
    }

    /** Each call with numbers that make it do all its work. */
    private static void calls(CopyBench x) {
        x.items(8);
        for (int c = 0; c < 8; c++) {
            answers += x.candidate() + x.seat(c, c / 3, c % 3);
            for (int i = 0; i < 8; i++) {
                answers += x.gives(c, i, (c + i) / 5 % 4);
            }
        }
        for (int i = 0; i < 8; i++) {
            answers += x.model(i, i % 4) + x.right(i, 3) + x.part(i, 1, 2) + x.itemOf(i, 4) + x.taken(i, 0);
        }
        for (int sign : new int[] {'0', 'a', 'b', ';', '1', '-', 'd'}) {
            answers += x.feed(sign);
        }
        answers += x.read() + x.use(2, 500) + x.use(0, 3) + x.use(5, 4) + x.answer(0, 1) + x.of(1, 1);
        answers += x.share(1, 1, 0, 1) + x.alike(0, 1) + x.odds(0, 1, 0, 1) + x.just(0, 1, 1, 4, 0);
        answers += x.source(0, 1) + x.without(0, 1, 2, 0) + x.key(0, 1);
        for (int what = 0; what < 5; what++) {
            answers += x.pairs(what, 1);
        }
        answers += x.pair(3, 0) + x.pairOdds(3, 1) + x.rank(0, 1) + x.linked(0) + x.chain(0) + x.group(0);
        answers += x.seated(1, 0) + x.drawn(1, 0, 1) + x.chance(1, 0, 1, 4, 1) + x.see(0, 1, true) + x.fits(0);
        answers += x.mean(0) + x.plan(3, 0, 1) + x.ends() + x.image() + x.undo() + x.count(5);
        answers += x.tape(0, 0, 60) + x.item(0, 1, 1) + x.judge(0, 0, 0) + x.peek(0, 1) + x.shift(0, 0, 0, 1, 59);
    }
}
