import java.util.function.Consumer;
import java.util.function.ToLongFunction;

/** Two objects that have had the same calls: what one call more changes is seen by comparing them. */
final class Twins {
    static final int BAD = 0, NO = 1, FULL = 2;

    private final Check check;
    private final String name;
    private final Consumer<AloneRooms> run;

    private Twins(Check check, String name, Consumer<AloneRooms> run) {
        this.check = check;
        this.name = name;
        this.run = run;
    }

    /** New objects: five rooms, nobody, nothing to undo, no image. */
    static Twins fresh(Check check) {
        return new Twins(check, "a new one", x -> { });
    }

    /** Three people in four rooms, something of all that there may be, and nothing full. */
    static Twins some(Check check) {
        return new Twins(check, "some", Twins::some);
    }

    /** As some, and then some calls more. */
    static Twins someThen(Check check, Consumer<AloneRooms> more) {
        Consumer<AloneRooms> some = Twins::some;
        return new Twins(check, "some", some.andThen(more));
    }

    /** Four people in five rooms, eight beats to undo, eight planned that can not be, 200 bytes. */
    static Twins full(Check check) {
        return new Twins(check, "full", Twins::full);
    }

    private static void some(AloneRooms x) {
        x.rooms(4);
        x.door(0, 1, true);
        x.door(1, 2, true);
        x.door(2, 3, true);
        x.cat(3, true);
        x.lay(0, 4);
        x.lay(1, 30);
        x.lay(3, 999);
        x.person(0);
        x.person(1);
        x.person(2);
        x.wish(0, 1, 1);
        x.wish(2, 4, 3);
        x.law(2);
        x.spy(1, 1999);
        x.spy(2, 7);
        x.plan(Check.at(1, 1, 1));
        x.plan(Check.at(0, 1, 2));
        x.beat(Check.at(1, 1, 2));
        x.image(0);
        x.beat(Check.at(0, 2, 3));
        x.law(3);
        x.image(1);
        x.beat(Check.at(0, 1, 3));
        Check.type(x, "rooms 3;person 1;law 2;cat 0;sill 2 50;wish 0 3 1;");
    }

    private static void full(AloneRooms x) {
        for (int r = 0; r < 4; r++) {
            x.door(r, r + 1, true);
            x.lay(r, 100 * r + 9);
            x.spy(r, 200 * r + 3);
        }
        for (int p = 0; p < 4; p++) {
            x.person(p);
            x.wish(p, p + 1, 4 - p);
        }
        x.law(1);
        x.image(1);
        for (int i = 1; i <= 10; i++) {
            x.beat(Check.at(i % 2, 1, 2, 3 + i % 2));
        }
        for (int i = 0; i < 8; i++) {
            x.plan(Check.at(i % 5, 4, 0, 2));
        }
        x.image(0);
        x.law(4);
        String items = "rooms 5;person 4;person 0;" + "cat 2;sill 4 123;".repeat(10);
        Check.type(x, items + " ".repeat(200 - items.length()));
    }

    private AloneRooms made() {
        AloneRooms x = new AloneRooms();
        run.accept(x);
        return x;
    }

    /** A refused call answers so, is counted once by its reason, and changes nothing else. */
    Twins dueRefused(String call, ToLongFunction<AloneRooms> asked, long answer, int reason) {
        AloneRooms x = made();
        AloneRooms y = made();
        check.due(told(call), asked.applyAsLong(x), answer);
        for (int what = 0; what < 3; what++) {
            check.due(told(call) + " counts in status(" + what + ")", x.status(what) - y.status(what), what == reason ? 1 : 0);
        }
        dueAlike(told(call), x, y);
        return this;
    }

    /** A question answers so and changes nothing, STATUS neither. */
    Twins dueAsked(String call, ToLongFunction<AloneRooms> asked, long answer) {
        return dueRefused(call, asked, answer, -1);
    }

    /** A question answers the same twice and changes nothing. */
    Twins dueUnchanged(String call, ToLongFunction<AloneRooms> asked) {
        return dueAsked(call, asked, asked.applyAsLong(made()))
                .dueAsked(call + " twice", x -> asked.applyAsLong(x) - asked.applyAsLong(x), 0);
    }

    private String told(String call) {
        return call + " of " + name;
    }

    /** All that can be seen, of what may be undone, of the images and of the text too. */
    private void dueAlike(String call, AloneRooms x, AloneRooms y) {
        dueAlikeBack(call + ", then", x, y);
        for (int i = 0; i < 2; i++) {
            check.due(call + ", then from(" + i + ")", x.from(i), y.from(i));
            dueAlikeBack(call + ", then from(" + i + "),", x, y);
        }
        check.due(call + ", then read()", x.read(), y.read());
        check.due(call + ", then digest() of the house that was read", x.digest(), y.digest());
    }

    private void dueAlikeBack(String call, AloneRooms x, AloneRooms y) {
        check.due(call + " digest()", x.digest(), y.digest());
        for (int i = 1; i <= 9; i++) {
            check.due(call + " undo() " + i, x.undo(), y.undo());
            check.due(call + " digest() behind undo() " + i, x.digest(), y.digest());
        }
    }
}
