import java.util.function.ToLongFunction;

/** Boundaries of images, of what was refused, of counts and the digest: promises 32 to 36, and their terms. */
public final class EdgeKeepTest {
    private static final Check check = new Check("EdgeKeepTest");
    private static final int LOWEST = Integer.MIN_VALUE, HIGHEST = Integer.MAX_VALUE;

    public static void main(String[] args) {
        imagesKeepAllButThemTextAndStatus();
        imagesKeepWhatMayBeUndone();
        itGoesOnFromAnImage();
        statusByReason();
        refusedChangesNothing();
        refusedAsBadFirst();
        othersCountAsThese();
        promise32OneIsKept();
        promise32Bad();
        promise33ItGoesOn();
        promise33Bad();
        promise33NoNoneWasKept();
        promise34Status();
        promise34AnotherWhat();
        promise35HowMany();
        promise35Bad();
        promise36CountsLawStanding();
        promise36People();
        promise36Rooms();
        promise36Plan();
        check.end();
    }

    private static void bad(String call, ToLongFunction<AloneRooms> asked, int answer) {
        Twins.fresh(check).dueRefused(call, asked, answer, Twins.BAD);
        Twins.some(check).dueRefused(call, asked, answer, Twins.BAD);
        Twins.full(check).dueRefused(call, asked, answer, Twins.BAD);
    }

    private static AloneRooms furnished() {
        AloneRooms x = Check.house("rooms 4;door 0 1;door 1 2;cat 3;sill 1 9;person 0;person 1;wish 0 1 1;wish 1 4 0;law 3;");
        x.spy(3, 1999);
        x.plan(Check.at(1, 1));
        x.plan(Check.at(3, 3));
        return x;
    }

    // ---- terms

    private static void imagesKeepAllButThemTextAndStatus() {
        check.sentence(0, "IMAGES 0, 1 keep all but them, THE TEXT and STATUS;");
        AloneRooms x = furnished();
        Check.type(x, "rooms 1;");
        long kept = x.digest();
        x.image(0);
        x.rooms(1);
        x.image(1);
        x.rooms(0);
        x.undo();
        x.type(32, 1);
        x.from(0);
        check.due("count(7): the text is as it was last", x.count(7), 9);
        check.dueStatus(x, 1, 1, 0);
        x.clear();
        Check.type(x, "rooms 2;");
        check.due("digest() of image 0", x.digest(), kept);
        check.due("from(1): images are not in an image", x.from(1), 1);
        check.due("count(0) of image 1", x.count(0), 1);
        check.due("read()", x.read(), 0);
        check.due("count(0): of the text that was typed last", x.count(0), 2);
        check.due("from(0) once more", x.from(0), 1);
        check.due("digest() of image 0", x.digest(), kept);
        dueKeptOfAFullHouse();
    }

    /** All is told otherwise behind the image, so that nothing of it is left but in the image. */
    private static void dueKeptOfAFullHouse() {
        AloneRooms x = Check.house("rooms 5;door 0 1;door 3 4;cat 2;sill 0 1;sill 1 2;sill 2 3;sill 3 4;sill 4 5;"
                + "person 0;person 1;person 3;person 4;law 1;");
        tellAll(x, 0);
        long[] kept = traced(x, 0);
        tellAll(x, 1);
        long[] others = traced(x, 1);
        for (int i = 0; i < 2; i++) {
            x.from(1 - i);
            long[] want = i == 0 ? others : kept;
            for (int back = 0; back <= 8; back++) {
                check.due("digest() of image " + (1 - i) + ", " + back + " beats undone", x.digest(), want[back]);
                x.undo();
            }
        }
        x.from(0);
        check.duePurses(x, -8, -8, -8, -8);
    }

    /** Eight beats, wishes, plans and readings that are one way or another. */
    private static void tellAll(AloneRooms x, int way) {
        x.scrap();
        for (int i = 0; i < 8; i++) {
            x.beat((i + way) % 2 == 0 ? Check.at(1, 0, 4, 3) : Check.at(0, 1, 3, 4));
            x.plan((i + way) % 5);
        }
        for (int r = 0; r < 5; r++) {
            x.lay(r, 10 * r + way);
            x.spy(r, 20 * r + way);
        }
        for (int p = 0; p < 4; p++) {
            for (int h = 1; h <= 4; h++) {
                x.wish(p, h, (p + h + way) % 5);
            }
        }
    }

    /** Keeps an image, then undoes all: the digests, and it goes on from the image. */
    private static long[] traced(AloneRooms x, int image) {
        x.image(image);
        long[] digests = new long[9];
        for (int back = 0; back <= 8; back++) {
            digests[back] = x.digest();
            x.undo();
        }
        x.from(image);
        return digests;
    }

    private static void imagesKeepWhatMayBeUndone() {
        check.sentence(0, "what may be undone they keep;");
        for (int beats = 0; beats <= 9; beats++) {
            AloneRooms x = Check.house("rooms 2;door 0 1;person 0;law 1;");
            for (int i = 1; i <= beats; i++) {
                x.beat(i % 2);
            }
            x.image(1);
            x.rooms(3);
            x.beat(0);
            x.from(1);
            int may = Math.min(beats, 8);
            check.due("count(6)", x.count(6), may);
            for (int i = 1; i <= may; i++) {
                check.due("undo()", x.undo(), 1);
                check.due("purse(0)", x.purse(0), i - beats);
                check.due("standing()", x.standing(), (beats - i) % 2);
            }
            check.due("undo()", x.undo(), -3);
            x.from(1);
            check.due("count(6) of the image, again", x.count(6), may);
        }
    }

    private static void itGoesOnFromAnImage() {
        check.sentence(0, "it goes on from one.");
        AloneRooms x = furnished();
        x.image(0);
        AloneRooms y = furnished();
        x.rooms(5);
        x.from(0);
        for (AloneRooms each : new AloneRooms[] {x, y}) {
            each.beat(Check.at(1, 2));
            each.person(3);
            each.lay(0, 77);
            each.beat(Check.at(2, 1, 3));
        }
        check.due("digest(): as if it had never been left", x.digest(), y.digest());
        x.from(0);
        check.due("digest(): the image does not go on", x.digest(), furnished().digest());
    }

    private static void statusByReason() {
        check.sentence(0, "STATUS: how many calls were refused as BAD, NO, FULL (each answer told so below is such a one).");
        AloneRooms x = new AloneRooms();
        check.dueStatus(x, 0, 0, 0);
        for (int i = 1; i <= 3; i++) {
            x.rooms(6);
            check.dueStatus(x, i, 0, 0);
        }
        for (int i = 1; i <= 3; i++) {
            x.undo();
            check.dueStatus(x, 3, i, 0);
        }
        for (int i = 0; i < 8; i++) {
            x.plan(0);
        }
        for (int i = 1; i <= 3; i++) {
            x.plan(0);
            check.dueStatus(x, 3, 3, i);
        }
        x.judge();
        x.least(1, 0);
        x.fewest(0);
        x.join(1);
        x.read();
        x.picks(0, 0, 1);
        check.dueStatus(x, 3, 3, 3);
        x.digest();
        check.dueStatus(x, 3, 3, 3);
    }

    /** All that can be refused otherwise than as BAD; what is BAD stands with each promise. */
    private static void refusedChangesNothing() {
        check.sentence(0, "Refused, changing nothing but STATUS,");
        Twins.some(check).dueRefused("door(0, 1, true)", x -> x.door(0, 1, true), -3, Twins.NO)
                .dueRefused("cat(3, true)", x -> x.cat(3, true), -3, Twins.NO)
                .dueRefused("beat(3)", x -> x.beat(3), -3, Twins.NO);
        Twins.full(check).dueRefused("person(0)", x -> x.person(0), -4, Twins.FULL)
                .dueRefused("type(0, 1)", x -> x.type(0, 1), -4, Twins.FULL)
                .dueRefused("plan(0)", x -> x.plan(0), -4, Twins.FULL)
                .dueRefused("cost(0)", x -> x.cost(0), -3, Twins.NO)
                .dueRefused("join(4)", x -> x.join(4), -3, Twins.NO);
        Twins.fresh(check).dueRefused("undo()", x -> x.undo(), -3, Twins.NO)
                .dueRefused("from(1)", x -> x.from(1), -3, Twins.NO);
    }

    private static void refusedAsBadFirst() {
        check.sentence(0, "the first of: BAD -2 a number is not as told; NO -3 as told;");
        check.due("BAD", AloneRooms.BAD, -2);
        check.due("NO", AloneRooms.NO, -3);
        check.due("FULL", AloneRooms.FULL, -4);
        check.due("NONE", AloneRooms.NONE, -1);
        Twins.fresh(check).dueRefused("door(3, 3, false): it is so, too", x -> x.door(3, 3, false), -2, Twins.BAD)
                .dueRefused("cat(5, false): it is so, too", x -> x.cat(5, false), -2, Twins.BAD)
                .dueRefused("from(2): none was kept, too", x -> x.from(2), -2, Twins.BAD);
        Twins.some(check).dueRefused("beat: 0 can not get there, 2 is in no room", x -> x.beat(Check.at(3, 1, 4)), -2, Twins.BAD)
                .dueRefused("beat: 1 can not get there, 0 is in no room", x -> x.beat(Check.at(4, 3, 3)), -2, Twins.BAD);
        Twins.full(check).dueRefused("person(5): there are four, too", x -> x.person(5), -2, Twins.BAD)
                .dueRefused("type(0, 9): there is no room, too", x -> x.type(0, 9), -2, Twins.BAD)
                .dueRefused("plan(5): there are eight, too", x -> x.plan(5), -2, Twins.BAD)
                .dueRefused("cost(5): it can not be, too", x -> x.cost(5), -2, Twins.BAD)
                .dueRefused("join(0): there are four, too", x -> x.join(0), -2, Twins.BAD);
    }

    private static void othersCountAsThese() {
        check.sentence(0, "FULL -4 (where others are told they count as these).");
        bad("wish(9, 1, 0)", x -> x.wish(9, 1, 0), -10);
        bad("purse(9)", x -> x.purse(9), -100000);
        bad("picks(9, 0, 0)", x -> x.picks(9, 0, 0), -10);
        bad("status(9)", x -> x.status(9), -1);
        Twins.some(check).dueAsked("picks(0, 0, 9) is not refused", x -> x.picks(0, 0, 9), -5);
        Twins.someThen(check, x -> x.clear()).dueAsked("read() of a fault is not refused", x -> x.read(), -10);
    }

    // ---- promises

    private static void promise32OneIsKept() {
        check.sentence(32, "An IMAGE is kept: 1.");
        AloneRooms x = new AloneRooms();
        check.due("image(0)", x.image(0), 1);
        x.rooms(2);
        check.due("image(1)", x.image(1), 1);
        x.rooms(3);
        check.due("from(0)", x.from(0), 1);
        check.due("count(0)", x.count(0), 5);
        check.due("from(1)", x.from(1), 1);
        check.due("count(0)", x.count(0), 2);
        x.rooms(4);
        check.due("image(0) in the place of the one that was", x.image(0), 1);
        x.from(1);
        check.due("count(0): the other one is not touched", x.count(0), 2);
        x.from(0);
        check.due("count(0)", x.count(0), 4);
        check.dueStatus(x, 0, 0, 0);
    }

    private static void promise32Bad() {
        check.sentence(32, "BAD.");
        for (int i : new int[] {2, -1, LOWEST, HIGHEST}) {
            bad("image(" + i + ")", x -> x.image(i), -2);
        }
    }

    private static void promise33ItGoesOn() {
        check.sentence(33, "It goes on from an IMAGE: 1.");
        AloneRooms x = furnished();
        long kept = x.digest();
        x.image(1);
        for (int i = 0; i < 3; i++) {
            x.beat(x.standing());
            x.person(0);
            check.due("from(1)", x.from(1), 1);
            check.due("digest()", x.digest(), kept);
        }
    }

    private static void promise33Bad() {
        check.sentence(33, "BAD;");
        for (int i : new int[] {2, -1, LOWEST, HIGHEST}) {
            bad("from(" + i + ")", x -> x.from(i), -2);
        }
    }

    private static void promise33NoNoneWasKept() {
        check.sentence(33, "NO: none was kept.");
        Twins.fresh(check).dueRefused("from(0)", x -> x.from(0), -3, Twins.NO)
                .dueRefused("from(1)", x -> x.from(1), -3, Twins.NO);
        for (int i = 0; i < 2; i++) {
            AloneRooms x = new AloneRooms();
            x.image(i);
            check.due("from(" + (1 - i) + "): only the other one was kept", x.from(1 - i), -3);
            check.due("from(" + i + ")", x.from(i), 1);
            check.due("from(" + (1 - i) + ")", x.from(1 - i), -3);
        }
        AloneRooms refused = new AloneRooms();
        refused.image(2);
        refused.image(-1);
        check.due("from(0) behind images that were refused", refused.from(0), -3);
        check.due("from(1) behind images that were refused", refused.from(1), -3);
    }

    private static void promise34Status() {
        check.sentence(34, "STATUS: BAD (0), NO (1), FULL (2).");
        for (int what = 0; what < 3; what++) {
            int asked = what;
            Twins.fresh(check).dueAsked("status(" + what + ")", x -> x.status(asked), 0);
            Twins.some(check).dueUnchanged("status(" + what + ")", x -> x.status(asked));
        }
        AloneRooms x = new AloneRooms();
        x.lay(9, 9);
        x.cat(0, false);
        x.cat(1, false);
        for (int i = 0; i < 11; i++) {
            x.plan(0);
        }
        check.due("status(0)", x.status(0), 1);
        check.due("status(1)", x.status(1), 2);
        check.due("status(2)", x.status(2), 3);
    }

    private static void promise34AnotherWhat() {
        check.sentence(34, "-1: another what (counts as BAD).");
        for (int what : new int[] {3, -1, LOWEST, HIGHEST}) {
            bad("status(" + what + ")", x -> x.status(what), -1);
        }
    }

    private static void promise35HowMany() {
        check.sentence(35, "How many: 0 ROOMS, 1 PEOPLE, 2 DOORS, 3 CATS, 4 the BEAT, 5 BEATS of THE PLAN, "
                + "6 that may be undone, 7 bytes of THE TEXT.");
        int[] none = {5, 0, 0, 0, 0, 0, 0, 0};
        int[] some = {4, 3, 3, 1, 3, 2, 3, 50};
        int[] full = {5, 4, 4, 0, 10, 8, 8, 200};
        for (int what = 0; what < 8; what++) {
            int asked = what;
            Twins.fresh(check).dueAsked("count(" + what + ")", x -> x.count(asked), none[what]);
            Twins.some(check).dueAsked("count(" + what + ")", x -> x.count(asked), some[what]);
            Twins.full(check).dueAsked("count(" + what + ")", x -> x.count(asked), full[what]);
        }
    }

    private static void promise35Bad() {
        check.sentence(35, "BAD.");
        for (int what : new int[] {8, -1, LOWEST, HIGHEST}) {
            bad("count(" + what + ")", x -> x.count(what), -2);
        }
    }

    private static void promise36CountsLawStanding() {
        check.sentence(36, "h = 757; then h = 31 h + v for each v: count(0) to count(7); THE LAW; the STANDING;");
        AloneRooms x = Check.house("rooms 1;cat 0;law 4;");
        x.beat(0);
        x.beat(0);
        x.undo();
        Check.type(x, "abc");
        check.due("digest()", x.digest(), Check.digestOf(1, 0, 0, 1, 1, 0, 1, 3, 4, 0, 0, 1, 0, 0));
        AloneRooms two = Check.house("rooms 2;door 0 1;person 1;person 1;");
        // 28 values are far more than a long holds: it wraps around
        check.due("digest() of two", two.digest(), Check.digestOf(2, 2, 1, 0, 0, 0, 0, 0, 0, 9,
                0, -1, -1, -1, -1, 0, -1, -1, -1, -1, 0, 0, 2, 0, 0, 0, 1, 0));
        Twins.fresh(check).dueUnchanged("digest()", y -> y.digest());
        Twins.some(check).dueUnchanged("digest()", y -> y.digest());
        Twins.full(check).dueUnchanged("digest()", y -> y.digest());
    }

    private static void promise36People() {
        check.sentence(36, "of PEOPLE PURSE, WISHES of BEATS 1 .. 4 (NONE: none);");
        AloneRooms x = Check.house("rooms 5;person 0;person 1;person 2;person 4;law 1;"
                + "wish 0 1 0;wish 0 4 4;wish 3 1 1;wish 3 4 3;wish 2 2 2;wish 1 3 4;");
        x.beat(x.standing());
        x.cat(2, true);
        x.beat(x.standing());
        check.due("digest()", x.digest(), Check.digestOf(5, 4, 0, 1, 2, 0, 2, 0, 1, Check.at(0, 1, 2, 4),
                -2, 0, -1, -1, 4,
                -2, -1, -1, 4, -1,
                -1, -1, 2, -1, -1,
                -2, 1, -1, -1, 3,
                2, 0, 0, 0, 2, 0, 0, 0, 1, 1, 0, 0, 0, 0, 0, 0, 2, 0, 0, 0));
    }

    private static void promise36Rooms() {
        check.sentence(36, "of ROOMS PENNIES, whether there is a CAT (1, 0), DOORS (as bits), what was READ;");
        AloneRooms x = Check.house("rooms 5;door 0 4;door 0 1;door 3 4;cat 0;cat 4;sill 0 999;sill 3 1;");
        x.spy(0, 1);
        x.spy(4, 1999);
        check.due("digest()", x.digest(), Check.digestOf(5, 0, 3, 2, 0, 0, 0, 0, 0, 0,
                999, 1, 16 + 2, 1,
                0, 0, 1, 0,
                0, 0, 0, 0,
                1, 0, 16, 0,
                0, 1, 8 + 1, 1999));
        x.rooms(2);
        check.due("digest(): of the rooms that there are", x.digest(), Check.digestOf(2, 0, 0, 0, 0, 0, 0, 0, 0, 0,
                0, 0, 0, 0, 0, 0, 0, 0));
    }

    private static void promise36Plan() {
        check.sentence(36, "STANDINGS of THE PLAN.");
        AloneRooms x = Check.house("rooms 1;person 0;person 0;person 0;person 0;");
        long[] v = new long[10 + 20 + 4];
        v[0] = 1;
        v[1] = 4;
        for (int p = 0; p < 4; p++) {
            for (int h = 1; h <= 4; h++) {
                v[10 + 5 * p + h] = -1;
            }
        }
        check.due("digest() of none", x.digest(), Check.digestOf(v));
        AloneRooms eight = Check.house("rooms 5;person 0;");
        for (int i = 0; i < 8; i++) {
            eight.plan(4 - i % 5);
        }
        check.due("digest() of eight", eight.digest(), Check.digestOf(5, 1, 0, 0, 0, 8, 0, 0, 0, 0,
                0, -1, -1, -1, -1, 0, 0, 0, 0, 0, 0, 0, 0, 0, 0, 0, 0, 0, 0, 0, 0, 0, 0, 0, 0,
                4, 3, 2, 1, 0, 4, 3, 2));
        eight.scrap();
        eight.plan(1);
        check.due("digest(): what was scrapped is gone", eight.digest(), Check.digestOf(5, 1, 0, 0, 0, 1, 0, 0, 0, 0,
                0, -1, -1, -1, -1, 0, 0, 0, 0, 0, 0, 0, 0, 0, 0, 0, 0, 0, 0, 0, 0, 0, 0, 0, 0, 1));
    }
}
