import java.lang.reflect.InvocationTargetException;
import java.lang.reflect.Method;
import java.lang.reflect.Modifier;

/** Every call with wrong numbers: it is refused, throws nothing and changes nothing. */
public final class RefusalsTest {
    private static final int[] EDGES = {Integer.MIN_VALUE, -100, -6, -2, 1001, 100000, Integer.MAX_VALUE};

    public static void main(String[] args) {
        for (Method call : DeedProofs.class.getDeclaredMethods()) {
            if (Modifier.isPublic(call.getModifiers()) && call.getParameterCount() > 0) {
                wrongInAllPlaces(call);
            }
        }
        Due.end();
    }

    private static void wrongInAllPlaces(Method call) {
        Class<?>[] types = call.getParameterTypes();
        for (int edge : EDGES) {
            Object[] given = new Object[types.length];
            for (int i = 0; i < types.length; i++) {
                given[i] = types[i] == long.class ? (Object) (long) edge : types[i] == boolean.class ? true : (Object) edge;
            }
            int got = invoke(call, Offices.someWithTape(), given);
            boolean refused = call.getName().equals("act") ? got == 0 : got <= -1 && got >= -4;
            Due.holds(call.getName() + " of " + edge + " is refused", refused);
            Still.refused(call.getName() + " of " + edge, Offices::someWithTape, got, office -> invoke(call, office, given));
        }
    }

    private static int invoke(Method call, DeedProofs office, Object[] given) {
        try {
            return (Integer) call.invoke(office, given);
        } catch (IllegalAccessException | InvocationTargetException e) {
            throw new IllegalStateException(call.getName() + " threw", e);
        }
    }
}
