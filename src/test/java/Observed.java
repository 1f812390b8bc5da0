import java.util.function.Supplier;
import java.util.function.ToIntFunction;

/** All that can be seen of a hall, so that two can be compared: whether a call changed nothing. */
final class Observed {
    private final RaisedArms hall;
    private final StringBuilder seen = new StringBuilder();

    private Observed(RaisedArms hall) {
        this.hall = hall;
    }

    /** A refused call answers what is due, and the hall is then as its twin is, on which nothing was called. */
    static void refused(Checks c, String what, Supplier<RaisedArms> made, ToIntFunction<RaisedArms> call, int due) {
        unchanged(c, what, made, call, due);
        c.isTrue(what + ": " + due + " is a refusal", due <= RaisedArms.UNKNOWN);
    }

    /** A call answers what is due, and changes nothing. */
    static void unchanged(Checks c, String what, Supplier<RaisedArms> made, ToIntFunction<RaisedArms> call, int due) {
        RaisedArms asked = made.get();
        c.due(what, call.applyAsInt(asked), due);
        String after = of(asked);
        String twin = of(made.get());
        c.isTrue(what + ": nothing changes; seen " + after + " for " + twin, after.equals(twin));
    }

    /** Looks at everything; the hall is used up by it. */
    static String of(RaisedArms hall) {
        Observed o = new Observed(hall);
        o.counts("now");
        o.told();
        o.evening();
        o.foretold();
        o.textAndRows();
        o.keptEvenings();
        return o.seen.toString();
    }

    private void note(String name, int answer) {
        seen.append(' ').append(name).append('=').append(answer);
    }

    private void counts(String when) {
        for (int what = 0; what < 6; what++) {
            note(when + what, hall.count(what));
        }
    }

    private void told() {
        for (int person = 0; person < hall.count(0); person++) {
            for (int what = 0; what < 5; what++) {
                note("person", hall.person(person, what));
            }
            for (int matter = 0; matter < hall.count(1); matter++) {
                note("worth", hall.worth(person, matter));
                note("as", hall.as(person, 0, matter));
            }
        }
    }

    private void evening() {
        for (int i = 0; i < hall.count(1); i++) {
            note("order", hall.order(i));
            for (int what = 0; what < 4; what++) {
                note("result", hall.result(i, what));
            }
            for (int person = 0; person < hall.count(0); person++) {
                note("held", hall.held(person, i));
            }
        }
    }

    private void foretold() {
        note("carries", hall.carries());
        note("settles", hall.settles());
        note("hour", hall.hour(20));
        for (int person = 0; person < hall.count(0); person++) {
            note("gain", hall.gain(person));
        }
    }

    private void textAndRows() {
        note("fault", hall.fault());
        note("judge", hall.judge());
        note("forget", hall.forget());
        note("erase", hall.erase());
    }

    /** Last of all, as it leaves the evening that is now. */
    private void keptEvenings() {
        for (int k = 0; k < 2; k++) {
            note("back", hall.back(k));
            counts("kept");
            evening();
            for (int person = 0; person < hall.count(0); person++) {
                for (int matter = 0; matter < hall.count(1); matter++) {
                    note("tell", hall.tell(person, matter, 0));
                }
                note("left", hall.person(person, 4));
            }
        }
    }
}
