import java.lang.reflect.InvocationTargetException;
import java.lang.reflect.Method;
import java.lang.reflect.Modifier;

/** Every call with wrong numbers: it is refused, throws nothing and changes nothing. */
public final class RefusalsTest {
    private static final int[] EDGES = {Integer.MIN_VALUE, -100, -6, -2, 1001, 100000, Integer.MAX_VALUE};

    public static void main(String[] args) throws IllegalAccessException, InvocationTargetException {
        for (Method call : DeedProofs.class.getDeclaredMethods()) {
            if (Modifier.isPublic(call.getModifiers()) && call.getParameterCount() > 0) {
                wrongInAllPlaces(call);
            }
        }
        Due.end();
    }

    private static DeedProofs office() {
        DeedProofs office = new DeedProofs();
        Due.rule(office, "s(a,b,c)>o(b,a,c)");
        office.paper(Due.fact("s123"), 0);
        office.paper(Due.fact("s321"), 1);
        office.proof(0);
        office.proof(1);
        office.proof(4);
        office.step(0, 0, Due.letters("1230"), 1, 0, 0, 0);
        office.step(1, 0, Due.letters("1230"), 1, 300, 0, 0);
        office.step(2, 0, Due.letters("3210"), 1, 300, 0, 0);
        office.title(0);
        office.title(2);
        Due.tactic(office, "0*");
        office.run(0, 5, 0);
        office.image();
        Due.feed(office, "s(a,b,c)>l(b,a,c)");
        return office;
    }

    private static void wrongInAllPlaces(Method call) throws IllegalAccessException, InvocationTargetException {
        DeedProofs office = office();
        String before = Picture.of(office);
        Class<?>[] types = call.getParameterTypes();
        for (int edge : EDGES) {
            Object[] given = new Object[types.length];
            for (int i = 0; i < types.length; i++) {
                given[i] = types[i] == long.class ? (Object) (long) edge : types[i] == boolean.class ? true : (Object) edge;
            }
            int got = (Integer) call.invoke(office, given);
            boolean refused = call.getName().equals("act") ? got == 0 : got <= -1 && got >= -4;
            Due.is(call.getName() + " of " + edge + " is refused", refused ? 1 : 0, 1);
        }
        Due.is(call.getName() + " changed nothing", before.equals(Picture.of(office)) ? 1 : 0, 1);
        Due.is("the tape is whole after " + call.getName(), office.rule(), 1);
    }
}
