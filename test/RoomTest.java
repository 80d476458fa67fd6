import java.lang.management.ManagementFactory;
import java.lang.reflect.Array;
import java.lang.reflect.Field;
import java.lang.reflect.Modifier;
import java.util.Collections;
import java.util.IdentityHashMap;
import java.util.Set;

/** All calls of one run live in one room: what an object holds is counted, and its calls make nothing. */
public final class RoomTest {
    static final int CALLS = 512;
    static final int MOST_OBJECTS = 600_000;
    static final int MOST_ELEMENTS = 7_300_000;
    static final String NET = WholeRunsTest.WIDE.replace("edge ", "\nedge ");
    static int objects;
    static int elements;

    public static void main(String[] args) throws Exception {
        AskingFragments x = Check.with(NET);
        Check.is("rule", Check.rule(x, "late test over 3;high;any from a to b level 1 over 2;heavy;new;"), 5);
        count(x);
        int objectsAtFirst = objects, elementsAtFirst = elements;
        System.out.println(objects + " objects, " + elements + " fields and elements");
        Check.is("an object takes a hundredth of the room at most", objects * 100 < MOST_OBJECTS && elements * 100 < MOST_ELEMENTS, true);
        for (int i = 0; i < CALLS; i++) anyCall(x, i);
        count(x);
        Check.is("as many objects behind 512 calls", objects, objectsAtFirst);
        Check.is("as many elements behind 512 calls", elements, elementsAtFirst);
        callsMakeNothing(x);
        Check.close();
    }

    static void anyCall(AskingFragments x, int i) {
        switch (i % 40) {
            case 0: x.feed(1852793957, 543243118, 1868850464, 1648062063, 1684349027); break;
            case 1: x.end(54); break;
            case 2: if (i % 3 == 0) x.net(); break;
            case 3: x.rule(); break;
            case 4: x.fault(0); break;
            case 5: x.again(); break;
            case 6: x.weigh(i % 30, 1 + i % 99); break;
            case 7: x.wake(i % 12); break;
            case 8: x.steps(9); break;
            case 9: x.rounds(2); break;
            case 10: x.take(x.choice()); break;
            case 11: x.drawn(60, i); break;
            case 12: x.image(i & 1); break;
            case 13: x.undo(); break;
            case 14: x.until(); break;
            case 15: x.starts(0); break;
            case 16: x.starter(); break;
            case 17: x.cores(0, 10, i); break;
            case 18: x.spell(0); break;
            case 19: x.byteAt(0); break;
            case 20: x.next(); break;
            case 21: x.nextBy(0); break;
            case 22: x.slack(0); break;
            case 23: x.heaviest(0, 1); break;
            case 24: x.least(0); break;
            case 25: x.now(7); break;
            case 26: x.fragment(0, 4); break;
            case 27: x.edge(0, 5); break;
            case 28: x.node(0, 1); break;
            case 29: x.waits(0, 0, 1); break;
            case 30: x.restore(i & 1); break;
            case 31: x.limit(); break;
            case 32: x.onWay(0); break;
            case 33: x.sent(0); break;
            default: x.count(i % 4); break;
        }
    }

    /** The tests' own machine tells how much a thread has made; where it can't, there is nothing to compare. */
    static void callsMakeNothing(AskingFragments x) {
        if (!(ManagementFactory.getThreadMXBean() instanceof com.sun.management.ThreadMXBean bean)
            || !bean.isThreadAllocatedMemorySupported()) return;
        long thread = Thread.currentThread().getId();
        bean.setThreadAllocatedMemoryEnabled(true);
        long least = Long.MAX_VALUE;
        for (int times = 0; times < 20; times++) {
            long before = bean.getThreadAllocatedBytes(thread);
            for (int i = 0; i < CALLS; i++) anyCall(x, i);
            least = Math.min(least, bean.getThreadAllocatedBytes(thread) - before);
        }
        Check.is("bytes that 512 calls make, less than one a call", least < CALLS, true);
    }

    static void count(Object x) throws Exception {
        objects = 0;
        elements = 0;
        visit(x, Collections.newSetFromMap(new IdentityHashMap<>()));
    }

    static void visit(Object x, Set<Object> seen) throws Exception {
        if (x == null || !seen.add(x)) return;
        objects++;
        if (x.getClass().isArray()) {
            int length = Array.getLength(x);
            elements += length;
            for (int i = 0; i < length && !x.getClass().getComponentType().isPrimitive(); i++) visit(Array.get(x, i), seen);
            return;
        }
        for (Field f : x.getClass().getDeclaredFields()) {
            if (Modifier.isStatic(f.getModifiers())) continue;
            elements++;
            f.setAccessible(true);
            if (!f.getType().isPrimitive()) visit(f.get(x), seen);
        }
    }
}
