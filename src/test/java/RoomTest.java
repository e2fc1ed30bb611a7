import java.lang.management.ManagementFactory;
import java.lang.reflect.Array;
import java.lang.reflect.Field;
import java.lang.reflect.Modifier;
import java.util.ArrayDeque;
import java.util.Collections;
import java.util.Deque;
import java.util.IdentityHashMap;
import java.util.Set;

/** LANGUAGE.md's rule 12: what an object keeps is made with it, and no call makes more. */
public final class RoomTest {
    private static final int MOST_OBJECTS = 200;
    private static final int MOST_FIELDS = 10000;
    private static final int RUNS = 4;
    private static final int CALLS_OF_A_ROUND = 39;
    private static final int ROUNDS = 12;

    /** Less than one object a round. */
    private static final long MOST_MADE = 16 * ROUNDS - 1;

    private static final Bench bench = new Bench("RoomTest");
    private static long answers = 0;

    public static void main(String[] args) throws IllegalAccessException {
        bench.sentence("12: what is kept is counted");
        long[] madeWith = kept(new DollTruce());
        bench.due("objects of a new one: " + madeWith[0], madeWith[0] <= MOST_OBJECTS, true);
        bench.due("fields and elements of a new one: " + madeWith[1], madeWith[1] <= MOST_FIELDS, true);
        // what a call makes is made in every run; what the machine makes for itself now and then is not
        long leastMade = Long.MAX_VALUE;
        for (int run = 0; run < RUNS; run++) {
            DollTruce x = Bench.of(Bench.fullText("moth 70;breach 30;seed 5;law angry love+hurt;"));
            long asking = -madeSoFar() + madeSoFar();
            long before = madeSoFar();
            for (int round = 0; round < ROUNDS; round++) {
                callAll(x, round);
            }
            long made = madeSoFar() - before - asking;
            leastMade = Math.min(leastMade, made);
            long[] kept = kept(x);
            bench.due("objects kept", kept[0], madeWith[0]);
            bench.due("fields and elements kept", kept[1], madeWith[1]);
        }
        bench.due("bytes made by " + ROUNDS * CALLS_OF_A_ROUND + " calls: " + leastMade, leastMade <= MOST_MADE, true);
        bench.due("answers were asked for", answers != 0, true);
        bench.end();
    }

    private static long madeSoFar() {
        return ((com.sun.management.ThreadMXBean) ManagementFactory.getThreadMXBean())
            .getThreadAllocatedBytes(Thread.currentThread().getId());
    }

    /** Every call of the face once. */
    private static void callAll(DollTruce x, int round) {
        int doll = round % 10;
        int city = round % 2;
        answers += x.feed(round, 0x6e757273, 0x65206120, 0x65617374, 0x20323b20) + x.text(round < 9 ? -1 : 4);
        answers += x.fault(0) + x.named(0, 1 << 25) + x.doll(doll, round % 7) + x.nurse(round % 6, 2) + x.city(city, 4);
        answers += x.moths(doll) + x.law(1, doll) + x.mend(doll) + x.tea(city);
        answers += (x.exchange(doll, doll + 1) ? 1 : 0) + (x.give(doll, round % 6) ? 1 : 0) + x.go(round);
        answers += x.ahead(60, 2, 0) + x.firstBreach() + x.quiet() + x.best(2, 99, 0) + x.enough(city, 9);
        answers += x.nursing(city, 20, 4) + x.rests() + x.rest(0) + x.whole(doll, 6, 1) + x.lists(city, 1, 2) + x.stays();
        answers += x.worst() + x.until(doll, 9) + x.safest(doll) + x.answersOn(city);
        answers += x.note(40, doll, 3, true) + x.out(round) + (x.known(-1) ? 1 : 0) + x.cares(round % 6);
        answers += x.chance(round, 60, 2) + x.tried(round % 6, 0, 60) + x.undo() + x.keep() + x.back() + x.count(11);
    }

    /** How many objects and arrays there are, and how many fields and elements these have. */
    private static long[] kept(Object root) throws IllegalAccessException {
        Set<Object> seen = Collections.newSetFromMap(new IdentityHashMap<>());
        Deque<Object> open = new ArrayDeque<>();
        seen.add(root);
        open.add(root);
        long fields = 0;
        while (!open.isEmpty()) {
            Object one = open.remove();
            if (one.getClass().isArray()) {
                fields += Array.getLength(one);
                for (int i = 0; one instanceof Object[] row && i < row.length; i++) {
                    find(row[i], seen, open);
                }
                continue;
            }
            for (Field field : one.getClass().getDeclaredFields()) {
                if (!Modifier.isStatic(field.getModifiers())) {
                    fields++;
                    field.setAccessible(true);
                    find(field.getType().isPrimitive() ? null : field.get(one), seen, open);
                }
            }
        }
        return new long[] {seen.size(), fields};
    }

    private static void find(Object one, Set<Object> seen, Deque<Object> open) {
        if (one != null && seen.add(one)) {
            open.add(one);
        }
    }
}
