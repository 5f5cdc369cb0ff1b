import java.util.function.Supplier;
import java.util.function.ToIntFunction;

/** For what must change nothing: offices that were made alike are asked for all that can be seen of them. */
final class Still {
    private Still() {
    }

    /** A call is refused, and all is as if it had not been made. */
    static void refused(String name, Supplier<DeedProofs> making, int due, ToIntFunction<DeedProofs> call) {
        Due.is(name, call.applyAsInt(making.get()), due);
        alike(name + " changes nothing", making, Offices.then(making, call::applyAsInt));
    }

    static void alike(String name, Supplier<DeedProofs> one, Supplier<DeedProofs> other) {
        Due.holds(name, Picture.of(one).equals(Picture.of(other)));
    }

    static void unlike(String name, Supplier<DeedProofs> one, Supplier<DeedProofs> other) {
        Due.holds(name, !Picture.of(one).equals(Picture.of(other)));
    }
}
