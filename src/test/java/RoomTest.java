import java.lang.management.ManagementFactory;
import java.lang.reflect.Array;
import java.lang.reflect.Field;
import java.lang.reflect.Modifier;
import java.util.ArrayList;
import java.util.IdentityHashMap;
import java.util.List;
import java.util.Map;
import java.util.function.ToIntFunction;

/**
 * All calls of one run live in one room (600,000 objects, 7.3 million fields and elements): an office makes its rows
 * when it is made, and calls make nothing but the first image(), which makes as much once more.
 */
public final class RoomTest {
    private static final int MOST_OBJECTS = 300, MOST_ELEMENTS = 20000, CALLS = 400, TEXTS = 150;
    /** What asking for the count may itself make; it is less than an object, 16 bytes at least, for each call. */
    private static final long SOME_BYTES = 2000;
    /** "o(a,b,c)": the start of a RULE. */
    private static final long START = 0x6f28612c622c6329L;

    public static void main(String[] args) throws IllegalAccessException {
        holdsLittle();
        keepsNothing();
        callsMakeNothing();
        Due.end();
    }

    /** Objects and arrays that can be reached from an office, and their fields and elements. */
    private static int[] room(DeedProofs office) throws IllegalAccessException {
        Map<Object, Boolean> seen = new IdentityHashMap<>();
        List<Object> objects = new ArrayList<>();
        add(office, seen, objects);
        int elements = 0;
        for (int at = 0; at < objects.size(); at++) {
            Object one = objects.get(at);
            if (one.getClass().isArray()) {
                elements += Array.getLength(one);
                for (int i = 0; i < Array.getLength(one) && !one.getClass().getComponentType().isPrimitive(); i++) {
                    add(Array.get(one, i), seen, objects);
                }
                continue;
            }
            for (Class<?> type = one.getClass(); type != Object.class; type = type.getSuperclass()) {
                for (Field field : type.getDeclaredFields()) {
                    if (!Modifier.isStatic(field.getModifiers())) {
                        elements++;
                        field.setAccessible(true);
                        add(field.getType().isPrimitive() ? null : field.get(one), seen, objects);
                    }
                }
            }
        }
        return new int[] {objects.size(), elements};
    }

    private static void add(Object one, Map<Object, Boolean> seen, List<Object> objects) {
        if (one != null && seen.put(one, true) == null) {
            objects.add(one);
        }
    }

    private static void holdsLittle() throws IllegalAccessException {
        DeedProofs office = new DeedProofs();
        int[] fresh = room(office);
        office.image();
        int[] imaged = room(office);
        Due.holds("objects: " + imaged[0], imaged[0] <= MOST_OBJECTS);
        Due.holds("elements: " + imaged[1], imaged[1] <= MOST_ELEMENTS);
        Due.holds("the image is no more than the rest", imaged[0] <= 2 * fresh[0] && imaged[1] <= 2 * fresh[1]);
    }

    /** An office that has as much as it may holds no more than a new one. */
    private static void keepsNothing() throws IllegalAccessException {
        DeedProofs fresh = new DeedProofs();
        fresh.image();
        DeedProofs full = Offices.full();
        full.undo();
        Due.holds("objects of a full one", room(full)[0] <= room(fresh)[0]);
        Due.holds("elements of a full one", room(full)[1] <= room(fresh)[1]);
    }

    private static void callsMakeNothing() {
        makesNothing("rule", office -> office.feed(START, 8) + office.rule(), TEXTS);
        makesNothing("change", office -> office.feed(START, 8) + office.change(0, 5), TEXTS);
        makesNothing("tactic", office -> office.feed('0', 1) + office.tactic(), TEXTS);
        makesNothing("paper", office -> office.paper(0, 0), CALLS);
        makesNothing("step", office -> office.step(3, 0, 0, 1, 0, 0, 0), CALLS);
        makesNothing("follows", office -> office.follows(Due.fact("l213"), 5, 2), CALLS);
        makesNothing("many", office -> office.many(5), CALLS);
        makesNothing("lacks", office -> office.lacks(8, 0, 5), CALLS);
        makesNothing("check", office -> office.check(8, 5), CALLS);
        makesNothing("leans", office -> office.leans(8), CALLS);
        makesNothing("act", office -> office.act(4, 2, 5), CALLS);
        makesNothing("fall", office -> office.fall(0), CALLS);
        makesNothing("carry", office -> office.carry(1, 9), CALLS);
        makesNothing("every", office -> office.every(Due.fact("l213")), CALLS);
        makesNothing("enough", office -> office.enough(Due.fact("l213"), 11), CALLS);
        makesNothing("could", office -> office.could(3, Due.fact("l213")), CALLS);
        makesNothing("run", office -> office.run(0, 200, 0), CALLS);
        makesNothing("image", DeedProofs::image, CALLS);
        makesNothing("undo", DeedProofs::undo, CALLS);
    }

    private static void makesNothing(String name, ToIntFunction<DeedProofs> call, int calls) {
        DeedProofs office = Offices.some();
        call.applyAsInt(office);
        long before = made();
        for (int i = 0; i < calls; i++) {
            call.applyAsInt(office);
        }
        long bytes = made() - before;
        Due.holds(name + " made " + bytes + " bytes", bytes <= SOME_BYTES);
    }

    private static long made() {
        com.sun.management.ThreadMXBean threads = (com.sun.management.ThreadMXBean) ManagementFactory.getThreadMXBean();
        return threads.getThreadAllocatedBytes(Thread.currentThread().getId());
    }
}
