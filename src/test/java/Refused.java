import java.util.function.Supplier;
import java.util.function.ToIntFunction;

/** Holds that a call on a scene is refused with its own answer, and leaves the object as if it had not been made. */
final class Refused {
    private final Check check;
    private final Supplier<CourtDraws> scene;
    private final String asItWas;

    Refused(Check check, Supplier<CourtDraws> scene) {
        this.check = check;
        this.scene = scene;
        this.asItWas = Probe.of(scene.get());
    }

    Refused due(String call, int want, ToIntFunction<CourtDraws> made) {
        CourtDraws x = scene.get();
        check.due(call, made.applyAsInt(x), want);
        check.due(call + ", refused, changes nothing", Probe.of(x), asItWas);
        return this;
    }
}
