import java.lang.management.ManagementFactory;
import java.lang.reflect.Array;
import java.lang.reflect.Field;
import java.lang.reflect.Modifier;
import java.util.ArrayDeque;
import java.util.Collections;
import java.util.Deque;
import java.util.IdentityHashMap;
import java.util.Set;

/** All calls of a run live in one room: what an object holds is counted, and calls make nothing more. */
public final class SonsLotRoom {
    private static int wrong = 0;
    private static int objects = 0;
    private static int elements = 0;

    public static void main(String[] args) throws IllegalAccessException {
        SonsLot x = new SonsLot();
        measure(x);
        due("objects that one holds: " + objects, objects <= 100);
        due("fields and elements that one holds: " + elements, elements <= 20000);
        com.sun.management.ThreadMXBean threads = (com.sun.management.ThreadMXBean) ManagementFactory.getThreadMXBean();
        int[] text = numbersOf(Due.EIGHT_TASTES + "yields water+rain;");
        useAll(x, text);
        long id = Thread.currentThread().getId();
        threads.getThreadAllocatedBytes(id);
        long before = threads.getThreadAllocatedBytes(id);
        for (int i = 0; i < 10; i++) {
            useAll(x, text);
        }
        long made = threads.getThreadAllocatedBytes(id) - before;
        due("bytes that calls made: " + made, made <= 2000);
        System.out.println("an object holds " + objects + " objects and arrays, " + elements + " fields and elements; "
            + "its calls made " + made + " bytes");
        if (wrong != 0) {
            System.exit(1);
        }
    }

    private static void due(String what, boolean holds) {
        if (!holds) {
            wrong++;
            System.out.println("not as due: " + what);
        }
    }

    /** Counts all that can be reached. */
    private static void measure(Object first) throws IllegalAccessException {
        Set<Object> met = Collections.newSetFromMap(new IdentityHashMap<>());
        Deque<Object> open = new ArrayDeque<>();
        open.add(first);
        while (!open.isEmpty()) {
            Object o = open.poll();
            if (!met.add(o)) {
                continue;
            }
            objects++;
            if (o.getClass().isArray()) {
                elements += Array.getLength(o);
                for (int i = 0; i < Array.getLength(o) && !o.getClass().getComponentType().isPrimitive(); i++) {
                    open.add(Array.get(o, i));
                }
                continue;
            }
            for (Field f : o.getClass().getDeclaredFields()) {
                if (Modifier.isStatic(f.getModifiers())) {
                    continue;
                }
                elements++;
                f.setAccessible(true);
                if (!f.getType().isPrimitive() && f.get(o) != null) {
                    open.add(f.get(o));
                }
            }
        }
    }

    /** A text as the numbers that feed it, blanks at its end. */
    private static int[] numbersOf(String text) {
        int[] numbers = new int[(text.length() + 19) / 20 * 5];
        for (int i = 0; i < 4 * numbers.length; i++) {
            numbers[i / 4] = numbers[i / 4] << 8 | (i < text.length() ? text.charAt(i) : ' ');
        }
        return numbers;
    }

    /** Each call but those that throw, which make their exception. */
    private static void useAll(SonsLot x, int[] text) {
        for (int i = 0; i < text.length; i += 5) {
            x.feed(text[i], text[i + 1], text[i + 2], text[i + 3], text[i + 4]);
        }
        x.island(4 * text.length);
        x.lots(7);
        x.turn(1);
        x.order(2, 5);
        x.order(2, 8);
        x.exchange(3, 4);
        x.market(3, 3);
        x.years(2);
        x.undo();
        x.see(1, 2, 3);
        x.image();
        x.restore();
        x.forget();
        x.fault();
        x.count(5);
        x.house(1, 7);
        x.plot(1, 4);
        x.worth(1, 1);
        x.harvest(1, 1, 1);
        x.ring();
        x.best(5);
        x.fairest(1);
        x.tribes();
        x.middle();
        x.then(1, 50);
        x.starves(1);
        x.tithes(50);
        x.holdsOut();
        x.lotsFor(9, 1);
        x.change(20);
        x.envied(0);
        x.without(1, 2);
        x.lastPlace(1);
        x.famine(50);
        x.bushels(1, 50);
        x.free();
        x.richest(50);
        x.brothers();
        x.look(1, 0);
        x.game(1, 2, 3, 1);
        x.founders(1, 30, 1);
        x.feed(text[0], text[1], text[2], text[3], text[4]);
        x.island(4);
    }
}
