import java.util.function.Predicate;
import java.util.function.Supplier;

/** A call that is refused answers false and changes nothing: the desk goes on as one that never got it. */
final class Refusals {
    private final Due due;
    private final Supplier<GalleyDesk> made;
    private final String untouched;

    /** The desks that are made have to be alike, and their texts such that a change shows. */
    Refusals(Due due, Supplier<GalleyDesk> made) {
        this.due = due;
        this.made = made;
        untouched = Desks.everything(made.get());
    }

    void refuses(String what, Predicate<GalleyDesk> call) {
        GalleyDesk desk = made.get();
        due.no(what, call.test(desk));
        due.is(what + ", and then", Desks.everything(desk), untouched);
        GalleyDesk asked = made.get();
        asked.lines();
        due.no(what + " behind lines()", call.test(asked));
        due.is(what + " behind lines(), and then", Desks.everything(asked), untouched);
    }
}
