import java.lang.management.ManagementFactory;
import java.lang.reflect.Array;
import java.lang.reflect.Field;
import java.lang.reflect.Modifier;
import java.util.ArrayDeque;
import java.util.IdentityHashMap;

/**
 * All calls of one run live in one room of 600,000 objects and 7.3 million fields and elements. A run has at most
 * 512 calls of an object, and it may be that as many of them make a new one: so each may make its share alone.
 */
public final class RoomTest {
    private static final int CALLS = 512;
    private static final int OBJECTS = 600_000 / CALLS, ELEMENTS = 7_300_000 / CALLS;
    private static final long RULE_TEXT = 0x62792b72616e6b3bL, FAULTY_TEXT = 0x62792b776f72743bL;
    private static int wrong;

    public static void main(String[] args) throws Exception {
        PairedComing x = new PairedComing();
        long[] made = sizes(x);
        must(made[0] <= OBJECTS, "a new object makes " + made[0] + " objects, more than " + OBJECTS);
        must(made[1] <= ELEMENTS, "a new object makes " + made[1] + " elements, more than " + ELEMENTS);
        fill(x);
        everyCall(x);
        long[] kept = sizes(x);
        must(kept[0] == made[0] && kept[1] == made[1],
            "calls keep " + (kept[0] - made[0]) + " objects and " + (kept[1] - made[1]) + " elements more");
        madeByCalls();
        System.out.println(made[0] + " objects, " + made[1] + " fields and elements in a new one");
        if (wrong > 0) System.exit(1);
    }

    private static void must(boolean holds, String what) {
        if (!holds) {
            wrong++;
            System.out.println(what);
        }
    }

    /** How many objects and arrays hang on this one, itself with them, and how many fields and elements they have. */
    private static long[] sizes(Object root) throws Exception {
        IdentityHashMap<Object, Boolean> seen = new IdentityHashMap<>();
        ArrayDeque<Object> open = new ArrayDeque<>();
        open.add(root);
        seen.put(root, true);
        long elements = 0;
        while (!open.isEmpty()) {
            Object o = open.remove();
            elements += o.getClass().isArray() ? intoArray(o, seen, open) : intoFields(o, seen, open);
        }
        return new long[] {seen.size(), elements};
    }

    private static int intoArray(Object array, IdentityHashMap<Object, Boolean> seen, ArrayDeque<Object> open) {
        int length = Array.getLength(array);
        if (!array.getClass().getComponentType().isPrimitive()) {
            for (int i = 0; i < length; i++) meet(Array.get(array, i), seen, open);
        }
        return length;
    }

    private static int intoFields(Object o, IdentityHashMap<Object, Boolean> seen, ArrayDeque<Object> open)
            throws Exception {
        int fields = 0;
        for (Field f : o.getClass().getDeclaredFields()) {
            if (Modifier.isStatic(f.getModifiers())) continue;
            fields++;
            f.setAccessible(true);
            if (!f.getType().isPrimitive()) meet(f.get(o), seen, open);
        }
        return fields;
    }

    private static void meet(Object o, IdentityHashMap<Object, Boolean> seen, ArrayDeque<Object> open) {
        if (o != null && seen.put(o, true) == null) open.add(o);
    }

    /** As much as there may be, but for one rule, and no more guests than means allow. */
    private static void fill(PairedComing x) {
        for (int p = 0; p < 6; p++) x.post(p < 4 ? 2 : 1, p, 999);
        for (int g = 0; g < 6; g++) {
            x.guest();
            for (int p = 0; p < 6; p++) x.worth(g, p, 1 + (7 * g + 5 * p) % 11);
        }
        for (int r = 0; r < 5; r++) {
            x.feed(RULE_TEXT);
            x.rule();
        }
        for (int k = 0; k < 4; k++) x.sheet(k, k % 3, 64);
    }

    /** Each call of the face at least once, on an object that has just been filled. */
    private static long everyCall(PairedComing x) {
        long sum = x.post(1, 1, 1) + x.worth(1, 1, 5) + x.worth(1, 1, 6) + x.chance(1, 2) + x.rank(1, 3) + x.told(1, 5);
        sum += x.feed(FAULTY_TEXT) + x.rule() + x.fault() + x.feed(RULE_TEXT) + x.end(8) + x.rule() + x.ruleOf(5, 10);
        sum += x.run(0, 0) + x.runBy(0, 543210) + x.best() + x.bestOf(2) + x.price(3) + x.cover(10203) + x.share(0, 1, 2);
        sum += x.mean(0, 0) + x.ends(1, 1) + x.meanOfRanks(0, 1) + x.hope(6, 0) + x.hopeFor(1, 6) + x.batch(2, 0);
        sum += x.worst(0, 3, 0) + x.come(0, 0) + x.let(1, 1) + x.leave(1) + x.market(0);
        sum += x.undo() + x.undo() + x.undo();
        for (int k = 0; k < 4; k++) sum += x.sheet(k, k % 3, 64) + x.lay(k, 63, 300) + x.net(k, k % 3, 64);
        return sum + x.count(6) + x.guest();
    }

    /** What the thread makes while calls run, on an object of its own each round: nothing is known ahead. */
    private static void madeByCalls() {
        if (!(ManagementFactory.getThreadMXBean() instanceof com.sun.management.ThreadMXBean threads)) {
            System.out.println("this machine does not count what is made");
            return;
        }
        PairedComing[] all = new PairedComing[30];
        for (int i = 0; i < all.length; i++) {
            all[i] = new PairedComing();
            fill(all[i]);
        }
        long sum = everyCall(all[0]);
        long before = threads.getCurrentThreadAllocatedBytes();
        for (int i = 1; i < all.length; i++) sum += everyCall(all[i]);
        long bytes = threads.getCurrentThreadAllocatedBytes() - before;
        must(sum != 0, "the calls answer nothing");
        // The machine itself may make some while it links: a single small object a round would make more than this.
        must(bytes < 16L * (all.length - 1), "calls make " + bytes + " bytes");
    }
}
