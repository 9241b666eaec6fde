import com.sun.management.ThreadMXBean;
import java.lang.management.ManagementFactory;
import java.lang.reflect.Array;
import java.lang.reflect.Field;
import java.lang.reflect.Modifier;
import java.util.ArrayDeque;
import java.util.Collections;
import java.util.Deque;
import java.util.IdentityHashMap;
import java.util.Set;

/**
 * All calls of one run live in one room: an object is small, keeps its size, and its calls make nothing new.
 */
public final class RoomTest extends Checks {
    private static final int OBJECTS_MOST = 300;
    private static final int CELLS_MOST = 12_000;
    private static final int CALLS = 512;
    /** A JVM may make a few bytes of its own; an array of ten ints, made in ten of the calls, would be above. */
    private static final long BYTES_MOST = 500;

    public static void main(String[] args) throws IllegalAccessException {
        // First, as a JVM that has run code often may leave out what it makes.
        long made = makes();
        due("calls make nothing, of bytes: " + made, made <= BYTES_MOST, true);
        SeeSawHill x = full();
        int[] before = size(new SeeSawHill());
        due("an object is made of few objects: " + before[0], before[0] <= OBJECTS_MOST, true);
        due("and of few fields and elements: " + before[1], before[1] <= CELLS_MOST, true);
        for (int round = 0; round < 40; round++) run(x, round);
        int[] behind = size(x);
        due("objects behind many calls", behind[0], before[0]);
        due("fields and elements behind many calls", behind[1], before[1]);
        finish("RoomTest");
    }

    private static SeeSawHill full() {
        SeeSawHill x = of("plank 400;plank 300;plank 200;plank 100;plank 50;fall 60;thieves 40;snow 9;guests 3 2");
        hill(x, "thing 9 worth 9 in 0;thing 8 worth 0 in 1;thing 7 worth 5 in 2;thing 6 worth 5 in 3;thing 5 worth 1 in 4");
        hill(x, "thing 9 worth 9 in 5;thing 8 worth 0 in 6;thing 7 worth 5 in 7;thing 6 worth 5 in 8;thing 5 worth 1 in 9");
        x.image();
        return x;
    }

    /** How many bytes the calls of one run make. */
    private static long makes() {
        ThreadMXBean threads = (ThreadMXBean) ManagementFactory.getThreadMXBean();
        SeeSawHill x = full();
        run(x, 0);
        long thread = Thread.currentThread().getId();
        threads.getThreadAllocatedBytes(thread);
        long from = threads.getThreadAllocatedBytes(thread);
        run(x, 0);
        return threads.getThreadAllocatedBytes(thread) - from;
    }

    private static int run(SeeSawHill x, int from) {
        int sum = 0;
        for (int call = 0; call < CALLS; call++) sum += x.count(0) == 5 ? one(x, call, (call + from) % 50) : 0;
        return sum;
    }

    private static int one(SeeSawHill x, int call, int which) {
        int plank = call % 5;
        int house = call % 10;
        switch (which) {
            case 0: return x.feed(0x72656e74, 0x20312069, 0x66207570, 0, 0);
            case 1: return x.end(0) ? 1 : 0;
            case 2: return x.feed(0x72656e74, 0x20312069, 0x66207570, 0, 0);
            case 3: return x.end(12) ? x.law() : 0;
            case 4: return x.end(0) ? x.law() : 0;
            case 5: return x.end(0) && x.count(2) < 12 ? x.hill() : 0;
            case 6: return x.fault();
            case 7: return x.plank(plank, call % 7);
            case 8: return x.house(house, call % 9);
            case 9: return x.thing(house, call % 3);
            case 10: return x.thing(house, 2) == NONE ? 0 : x.carry(house, call % 7);
            case 11: return x.guests(house, call % 10);
            case 12: return x.prop(plank, call % 3 == 0) ? 1 : 0;
            case 13: return x.plank(plank, 3) == 0 ? 0 : x.mend(plank);
            case 14: return x.house(0, 0) == 0 ? 0 : x.give(0, 1, 1);
            case 15: return x.sweep();
            case 16: return x.weeks(60);
            case 17: return x.view() + x.well() + x.twins();
            case 18: return x.best(plank);
            case 19: return x.stand(plank, call % 11 - 5);
            case 20: return x.heave(plank, call % 11 - 5, call % 2 == 0);
            case 21: return x.breaks(plank);
            case 22: return x.more(plank);
            case 23: return x.last();
            case 24: return x.match(255, NONE);
            case 25: return x.match(1020, house);
            case 26: return x.end(0) ? x.has(plank, call % 2 == 0) : 0;
            case 27: return x.end(0) ? x.ask(plank) : 0;
            case 28: return x.feed(0x00050105, 0x02050305, 0x04050505, 0x06050705, 0x08050905);
            case 29: return x.has(plank, true);
            case 30: return x.ballast(plank);
            case 31: return x.thief();
            case 32: return x.guards(8, 0);
            case 33: return x.loot(10);
            case 34: return x.rent(house, 100);
            case 35: return x.poor() + x.rich() + x.heaviest() + x.alike();
            case 36: return x.ahead(house, 100, call % 2 == 0);
            case 37: return x.trial(60, call % 2 == 0);
            case 38: return x.span(60, call % 2 == 0);
            case 39: return x.led(house, call % 2 == 0);
            case 40: return x.log(call % 61, call % 5);
            case 41: return x.seed(call);
            case 42: return x.undo() ? 1 : 0;
            case 43: return x.count(call % 16);
            case 44: return x.back() ? 1 : 0;
            case 45: x.image(); return 0;
            default: return x.count(call % 15);
        }
    }

    /** Objects and arrays that hang on one, and their fields and elements together. */
    private static int[] size(Object root) throws IllegalAccessException {
        Set<Object> seen = Collections.newSetFromMap(new IdentityHashMap<>());
        Deque<Object> left = new ArrayDeque<>();
        int[] size = new int[2];
        push(root, seen, left);
        while (!left.isEmpty()) {
            Object o = left.pop();
            size[0]++;
            if (o.getClass().isArray()) {
                size[1] += Array.getLength(o);
                if (o instanceof Object[] all) for (Object part : all) push(part, seen, left);
            } else {
                for (Class<?> c = o.getClass(); c != Object.class; c = c.getSuperclass()) size[1] += fields(c, o, seen, left);
            }
        }
        return size;
    }

    private static int fields(Class<?> c, Object o, Set<Object> seen, Deque<Object> left) throws IllegalAccessException {
        int many = 0;
        for (Field f : c.getDeclaredFields()) {
            if (Modifier.isStatic(f.getModifiers())) continue;
            many++;
            f.setAccessible(true);
            if (!f.getType().isPrimitive()) push(f.get(o), seen, left);
        }
        return many;
    }

    private static void push(Object o, Set<Object> seen, Deque<Object> left) {
        if (o != null && seen.add(o)) left.push(o);
    }
}
