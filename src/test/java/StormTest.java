import java.lang.reflect.InvocationTargetException;
import java.lang.reflect.Method;
import java.lang.reflect.Modifier;
import java.util.ArrayList;
import java.util.Arrays;
import java.util.Comparator;
import java.util.List;
import java.util.Random;
import java.util.function.Supplier;

/**
 * "No call may ever throw or fail to end, for any arguments in any state" (LANGUAGE.md, rule 7): storms of calls with any
 * numbers, beyond the 512th too. "the same calls always give the same answers" (rule 13): two offices are asked alike.
 */
public final class StormTest {
    private static final int STORMS = 150, CALLS = 3000;
    private static final int[] ODD = {Integer.MIN_VALUE, Integer.MIN_VALUE + 1, -1000, -11, -10, -6, -5, -4, -3, -2, -1, 624,
        625, 749, 750, 998, 999, 1000, 1 << 19, (1 << 20) - 1, 1 << 20, 1 << 30, Integer.MAX_VALUE - 1, Integer.MAX_VALUE};
    private static final String[] TEXTS = {"s(a,b,c)>o(b,a,c)", "o(a,b,c)&s(a,d,b)&a#d>o(d,b,c)", "o(a,b,c)&c<3>l(a,b,c)",
        "o(a,b,c)&o(d,b,c)&a<d>h(a,d,c)", "o(a,b,c)&w(d,d,d)>o(b,c,d)", "l(a,b,c)>w(c,b,a)", "(0|1;2)*", "((((((0*)*)*)*)*)*)*",
        "0;1;2;3;4;5;6;7", "(0|(1|(2|(3|(4|(5))))))*", "o(a,b", "0;(1"};

    private final Random random;
    private final DeedProofs office;
    private final DeedProofs twin;

    private StormTest(int seed, Supplier<DeedProofs> making) {
        random = new Random(seed);
        office = making.get();
        twin = making.get();
    }

    public static void main(String[] args) {
        List<Method> face = new ArrayList<>();
        for (Method method : DeedProofs.class.getDeclaredMethods()) {
            if (Modifier.isPublic(method.getModifiers())) {
                face.add(method);
            }
        }
        face.sort(Comparator.comparing(Method::getName));
        List<Supplier<DeedProofs>> makings = List.of(DeedProofs::new, Offices::some, Offices::fullButTape);
        for (int seed = 0; seed < STORMS; seed++) {
            StormTest storm = new StormTest(seed, makings.get(seed % makings.size()));
            boolean calm = true;
            for (int i = 0; i < CALLS && calm; i++) {
                boolean text = storm.random.nextInt(12) == 0;
                calm = text ? storm.feedText() : storm.call(face.get(storm.random.nextInt(face.size())));
            }
            Due.holds("storm " + seed, calm);
        }
        Due.end();
    }

    private boolean feedText() {
        String text = TEXTS[random.nextInt(TEXTS.length)];
        return Due.feed(office, text) == Due.feed(twin, text);
    }

    private int number() {
        int kind = random.nextInt(20);
        if (kind == 0) {
            return random.nextInt();
        }
        int most = kind < 12 ? 4 : kind < 16 ? 13 : kind < 18 ? 310 : 800;
        return kind < 3 ? ODD[random.nextInt(ODD.length)] : random.nextInt(most);
    }

    private boolean call(Method method) {
        // An office that goes back all the time would stay small.
        if (method.getName().equals("undo") && random.nextInt(10) != 0) {
            return true;
        }
        Class<?>[] types = method.getParameterTypes();
        Object[] given = new Object[types.length];
        for (int i = 0; i < given.length; i++) {
            given[i] = types[i] == long.class ? (Object) random.nextLong()
                    : types[i] == boolean.class ? (Object) (random.nextInt(4) == 0) : (Object) number();
        }
        try {
            return method.invoke(office, given).equals(method.invoke(twin, given));
        } catch (IllegalAccessException | InvocationTargetException e) {
            System.out.println(method.getName() + Arrays.toString(given) + " threw " + e.getCause());
            return false;
        }
    }
}
