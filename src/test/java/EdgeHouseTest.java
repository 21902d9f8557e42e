import java.util.function.ToLongFunction;

/** Boundaries of rooms, doors, cats, sills, people, laws and wishes: promises 1 to 8, and their terms. */
public final class EdgeHouseTest {
    private static final Check check = new Check("EdgeHouseTest");
    private static final int LOWEST = Integer.MIN_VALUE, HIGHEST = Integer.MAX_VALUE;

    public static void main(String[] args) {
        the512thCallIsAnswered();
        roomsAreZeroToNLessOne();
        doorsJoinTwoRooms();
        sillsAreEmptyAtFirst();
        catsKeepCompany();
        peopleAreZeroToThree();
        theLesserNumbersAreTheElder();
        aPurseGoesBelowZero();
        aloneHasNobodyNorACat();
        theBeatIsZeroAtFirst();
        promise1AsToldNobody();
        promise2NothingIsLeft();
        promise2ImagesTextAndStatusStay();
        promise2WhatNWas();
        promise2Bad();
        promise3OneDoorOrNone();
        promise3BadAlikeToo();
        promise3NoItIsSo();
        promise4OneCatOrNone();
        promise4Bad();
        promise4NoItIsSo();
        promise5WhatTheyWere();
        promise5Bad();
        promise6TheNumber();
        promise6NothingMayBeUndone();
        promise6Bad();
        promise6FullOfFour();
        promise7WhatItWas();
        promise7Bad();
        promise8WhatItWas();
        promise8Bad();
        check.end();
    }

    /** Refused as BAD whatever stands there. */
    private static void bad(String call, ToLongFunction<AloneRooms> asked, int answer) {
        Twins.fresh(check).dueRefused(call, asked, answer, Twins.BAD);
        Twins.some(check).dueRefused(call, asked, answer, Twins.BAD);
        Twins.full(check).dueRefused(call, asked, answer, Twins.BAD);
    }

    private static void bad(String call, ToLongFunction<AloneRooms> asked) {
        bad(call, asked, -2);
    }

    // ---- terms

    private static void the512thCallIsAnswered() {
        check.sentence(0, "An object is used for at most 512 calls after it has been made; what later calls answer is free.");
        AloneRooms x = new AloneRooms();
        x.person(4);
        x.law(1);
        for (int i = 0; i < 506; i++) {
            x.beat(4);
        }
        check.due("the 509th call, count(4)", x.count(4), 506);
        check.due("the 510th call, count(6)", x.count(6), 8);
        check.due("the 511th call, sill(4)", x.sill(4), 506);
        check.due("the 512th call, purse(0)", x.purse(0), -506);
    }

    private static void roomsAreZeroToNLessOne() {
        check.sentence(0, "ROOMS 0 to n less 1 (n 1 .. 5; 5 at first),");
        check.due("count(0) of a new one", new AloneRooms().count(0), 5);
        check.due("sill(4) of a new one", new AloneRooms().sill(4), 0);
        check.due("sill(5) of a new one", new AloneRooms().sill(5), -2);
        for (int n = 1; n <= 5; n++) {
            dueLastRoom(n);
            dueNoRoom(n, n);
            dueNoRoom(n, -1);
            dueNoRoom(n, LOWEST);
            dueNoRoom(n, HIGHEST);
        }
    }

    private static AloneRooms withOne(int n) {
        AloneRooms x = new AloneRooms();
        x.rooms(n);
        x.person(n - 1);
        return x;
    }

    private static void dueLastRoom(int n) {
        AloneRooms x = withOne(n);
        int last = n - 1;
        String of = " of " + n + " rooms";
        check.due("count(0)" + of, x.count(0), n);
        check.due("standing()" + of, x.standing(), last);
        check.due("sill" + of, x.sill(last), 0);
        check.due("lay" + of, x.lay(last, 7), 0);
        check.due("cat" + of, x.cat(last, true), 1);
        check.due("wish" + of, x.wish(0, 1, last), -1);
        check.due("spy" + of, x.spy(last, 7), 0);
        check.due("was" + of, x.was(0, last), 0);
        check.due("picks" + of, x.picks(last, 6, -1), 7);
        check.due("beat" + of, x.beat(last), 0);
        check.due("plan" + of, x.plan(last), 1);
        check.due("fewest" + of, x.fewest(last), 0);
        if (n > 1) {
            check.due("door" + of, x.door(last, 0, true), 1);
            check.due("the other way, door" + of, x.door(0, last, true), -3);
        }
        check.dueStatus(x, 0, n > 1 ? 1 : 0, 0);
    }

    private static void dueNoRoom(int n, int r) {
        AloneRooms x = withOne(n);
        String of = " of room " + r + " of " + n;
        check.due("sill" + of, x.sill(r), -2);
        check.due("lay" + of, x.lay(r, 7), -2);
        check.due("cat" + of, x.cat(r, true), -2);
        check.due("person" + of, x.person(r), -2);
        check.due("wish" + of, x.wish(0, 1, r), r == -1 ? -1 : -10);
        check.due("spy" + of, x.spy(r, 7), -2);
        check.due("was" + of, x.was(0, r), -2);
        check.due("picks" + of, x.picks(r, 0, -1), -10);
        check.due("beat" + of, x.beat(r), -2);
        check.due("plan" + of, x.plan(r), -2);
        check.due("fewest" + of, x.fewest(r), -2);
        check.due("door" + of, x.door(0, r, true), -2);
        check.due("door there" + of, x.door(r, 0, true), -2);
        check.dueStatus(x, r == -1 ? 12 : 13, 0, 0);
    }

    private static void doorsJoinTwoRooms() {
        check.sentence(0, "DOORS join two of them.");
        AloneRooms x = new AloneRooms();
        int doors = 0;
        for (int a = 0; a < 5; a++) {
            for (int b = a + 1; b < 5; b++) {
                check.due("door(" + b + ", " + a + ", true)", x.door(b, a, true), 1);
                doors++;
                check.due("count(2)", x.count(2), doors);
            }
        }
        check.due("count(2) of all doors", x.count(2), 10);
        x.person(0);
        check.due("from 0 to 4", x.beat(4), 1);
        check.due("from 4 to 0", x.beat(0), 1);
        x.door(0, 4, false);
        check.due("from 0 to 4, no door", x.beat(4), -3);
        check.due("from 0 to 1", x.beat(1), 1);
        check.due("from 1 to 4", x.beat(4), 1);
        check.due("from 4 to 0, no door", x.beat(0), -3);
    }

    private static void sillsAreEmptyAtFirst() {
        check.sentence(0, "SILLS have PENNIES (0 .. 999 told; 0 at first).");
        AloneRooms x = new AloneRooms();
        check.dueSills(x, 0, 0, 0, 0, 0);
        for (int r = 0; r < 5; r++) {
            check.due("lay(" + r + ", 999)", x.lay(r, 999), 0);
            check.due("lay(" + r + ", 1000)", x.lay(r, 1000), -2);
            check.due("lay(" + r + ", -1)", x.lay(r, -1), -2);
        }
        check.dueSills(x, 999, 999, 999, 999, 999);
        check.due("lay(0, 0)", x.lay(0, 0), 999);
        check.dueSills(x, 0, 999, 999, 999, 999);
        x.rooms(2);
        check.dueSills(x, 0, 0);
    }

    private static void catsKeepCompany() {
        check.sentence(0, "CATS are in some ROOMS (none at first): in these nobody is alone.");
        AloneRooms x = new AloneRooms();
        check.due("count(3) at first", x.count(3), 0);
        x.person(0);
        x.law(1);
        for (int r = 4; r >= 0; r--) {
            check.due("alone(0), cats in rooms above " + r, x.alone(0), 1);
            check.due("cat(" + r + ", true)", x.cat(r, true), 1);
        }
        check.due("count(3): everywhere", x.count(3), 5);
        check.due("alone(0), with a cat", x.alone(0), 0);
        check.due("beat(0): with a cat", x.beat(0), 0);
        x.cat(0, false);
        check.due("alone(0), cats in all other rooms", x.alone(0), 1);
        check.due("beat(0): no cat", x.beat(0), 1);
        check.due("count(3)", x.count(3), 4);
    }

    private static void peopleAreZeroToThree() {
        check.sentence(0, "PEOPLE 0 .. 3, as they come, are in a ROOM each,");
        AloneRooms x = new AloneRooms();
        check.due("count(1) at first", x.count(1), 0);
        for (int p = 0; p < 4; p++) {
            dueNobody(x, p);
            check.due("person(" + p + ")", x.person(p), p);
            check.due("count(1)", x.count(1), p + 1);
            check.due("his purse", x.purse(p), 0);
            check.due("alone(" + p + ")", x.alone(p), 1);
            check.due("his wish", x.wish(p, 4, -1), -1);
            check.due("was(" + p + ", " + p + ")", x.was(p, p), 1);
        }
        dueNobody(x, 4);
        dueNobody(x, -1);
        dueNobody(x, LOWEST);
        dueNobody(x, HIGHEST);
        check.due("a fifth", x.person(0), -4);
        check.dueStatus(x, 4 * 8, 0, 1);
    }

    private static void dueNobody(AloneRooms x, int p) {
        check.due("purse(" + p + ") of nobody", x.purse(p), -100000);
        check.due("alone(" + p + ") of nobody", x.alone(p), -2);
        check.due("wish(" + p + ", 1, 0) of nobody", x.wish(p, 1, 0), -10);
        check.due("was(" + p + ", 0) of nobody", x.was(p, 0), -2);
    }

    private static void theLesserNumbersAreTheElder() {
        check.sentence(0, "the lesser numbers are the elder;");
        AloneRooms x = Check.house("rooms 2;door 0 1;sill 1 8;person 0;person 0;person 0;person 0;");
        x.beat(Check.at(0, 1, 1, 1));
        check.duePurses(x, -1, 8, 0, 0);
        x.law(2);
        x.lay(1, 6);
        x.beat(Check.at(1, 1, 1, 1));
        check.duePurses(x, 2, 11, 0, 0);
    }

    private static void aPurseGoesBelowZero() {
        check.sentence(0, "a PURSE (0 at first; below 0 too).");
        AloneRooms x = new AloneRooms();
        for (int p = 0; p < 4; p++) {
            x.person(p);
            check.due("purse(" + p + ") at first", x.purse(p), 0);
        }
        x.law(1);
        x.beat(x.standing());
        check.duePurses(x, -1, -1, -1, -1);
        x.beat(x.standing());
        check.duePurses(x, -2, -2, -2, -2);
    }

    private static void aloneHasNobodyNorACat() {
        check.sentence(0, "ALONE: one who has nobody with him in his ROOM, nor a CAT.");
        AloneRooms x = new AloneRooms();
        x.person(2);
        check.due("alone(0), nobody else", x.alone(0), 1);
        x.person(3);
        check.due("alone(0), one in another room", x.alone(0), 1);
        check.due("alone(1)", x.alone(1), 1);
        x.cat(3, true);
        check.due("alone(0), a cat in another room", x.alone(0), 1);
        check.due("alone(1), with a cat", x.alone(1), 0);
        x.person(2);
        check.due("alone(0), with 2", x.alone(0), 0);
        check.due("alone(2), with 0", x.alone(2), 0);
        x.person(2);
        check.due("alone(0), with two", x.alone(0), 0);
        check.due("alone(3), with two", x.alone(3), 0);
    }

    private static void theBeatIsZeroAtFirst() {
        check.sentence(0, "BEAT 0 at first.");
        AloneRooms x = new AloneRooms();
        check.due("count(4)", x.count(4), 0);
        x.law(3);
        check.due("rent(1, 1): the next one is odd", x.rent(1, 1), 1);
        check.due("beat(0)", x.beat(0), 0);
        check.due("count(4)", x.count(4), 1);
    }

    // ---- promises

    private static void promise1AsToldNobody() {
        check.sentence(1, "As told; nobody.");
        AloneRooms x = new AloneRooms();
        int[] counts = {5, 0, 0, 0, 0, 0, 0, 0};
        for (int what = 0; what < 8; what++) {
            check.due("count(" + what + ")", x.count(what), counts[what]);
        }
        check.dueStatus(x, 0, 0, 0);
        check.due("standing()", x.standing(), 0);
        check.due("quiet(): of one standing", x.quiet(), 1);
        check.due("digest()", x.digest(), Check.digestOf(5, 0, 0, 0, 0, 0, 0, 0, 0, 0,
                0, 0, 0, 0, 0, 0, 0, 0, 0, 0, 0, 0, 0, 0, 0, 0, 0, 0, 0, 0));
        for (int r = 0; r < 5; r++) {
            check.due("spy(" + r + ", 0): what was told", x.spy(r, 0), 0);
        }
        check.due("judge()", x.judge(), -1);
        check.due("law(0): what it was", x.law(0), 0);
        check.due("scrap()", x.scrap(), 0);
        check.due("clear()", x.clear(), 0);
        check.dueStatus(x, 0, 0, 0);
        check.due("undo()", x.undo(), -3);
        check.due("from(0)", x.from(0), -3);
        check.due("from(1)", x.from(1), -3);
        check.due("purse(0)", x.purse(0), -100000);
        check.dueStatus(x, 1, 3, 0);
    }

    private static void promise2NothingIsLeft() {
        check.sentence(2, "n ROOMS, nothing, nobody there (THE LAW 0, BEAT 0; no WISHES, PLAN, nothing READ, nothing to undo;");
        for (int n = 1; n <= 5; n++) {
            AloneRooms x = Check.house("rooms 5;door 0 1;door 2 3;door 3 4;cat 0;cat 4;sill 0 9;sill 4 999;"
                    + "person 0;person 1;person 3;person 4;wish 0 1 1;wish 3 4 0;law 1;");
            for (int r = 0; r < 5; r++) {
                x.spy(r, 1000 + r);
            }
            for (int i = 0; i < 8; i++) {
                x.plan(x.standing());
                x.beat(x.standing());
            }
            x.rooms(n);
            long[] v = new long[10 + 4 * n];
            v[0] = n;
            check.due("digest() behind rooms(" + n + ")", x.digest(), Check.digestOf(v));
            check.due("undo()", x.undo(), -3);
            dueAsNew(x, n);
        }
    }

    /** What a digest does not show as long as nobody is there. */
    private static void dueAsNew(AloneRooms x, int n) {
        for (int p = 0; p < 4; p++) {
            check.due("person(0)", x.person(0), p);
            check.due("purse(" + p + ")", x.purse(p), 0);
            for (int h = 1; h <= 4; h++) {
                check.due("wish(" + p + ", " + h + ")", x.wish(p, h, -1), -1);
            }
        }
        check.due("standing()", x.standing(), 0);
        check.due("plan(0)", x.plan(0), 1);
        check.due("judge()", x.judge(), -1);
        check.due("law(0)", x.law(0), 0);
        check.due("beat(0)", x.beat(0), 0);
        check.due("count(4)", x.count(4), 1);
        check.due("picks(0, 6, NONE)", x.picks(0, 6, -1), 0);
        x.rooms(5);
        check.due("rooms beyond those of rooms(" + n + ")", x.digest(), new AloneRooms().digest());
    }

    private static void promise2ImagesTextAndStatusStay() {
        check.sentence(2, "IMAGES, THE TEXT, STATUS stay):");
        AloneRooms x = new AloneRooms();
        x.person(4);
        x.person(7);
        x.undo();
        for (int i = 0; i < 9; i++) {
            x.plan(4);
        }
        x.beat(4);
        x.image(0);
        long image = x.digest();
        Check.type(x, "rooms 3;cat 2;");
        x.rooms(2);
        check.dueStatus(x, 1, 1, 1);
        check.due("count(7)", x.count(7), 14);
        check.due("from(1): none was kept", x.from(1), -3);
        check.due("read()", x.read(), 0);
        check.due("count(0) that was read", x.count(0), 3);
        check.due("count(3) that was read", x.count(3), 1);
        x.clear();
        x.rooms(1);
        check.due("from(0)", x.from(0), 1);
        check.due("digest() of the image", x.digest(), image);
        check.due("undo() of the image", x.undo(), 1);
    }

    private static void promise2WhatNWas() {
        check.sentence(2, "what n was.");
        AloneRooms x = new AloneRooms();
        int was = 5;
        for (int n : new int[] {1, 1, 5, 5, 2, 4, 3}) {
            check.due("rooms(" + n + ")", x.rooms(n), was);
            was = n;
        }
    }

    private static void promise2Bad() {
        check.sentence(2, "BAD.");
        for (int n : new int[] {0, 6, -1, 8, LOWEST, HIGHEST}) {
            bad("rooms(" + n + ")", x -> x.rooms(n));
        }
    }

    private static void promise3OneDoorOrNone() {
        check.sentence(3, "A DOOR of two ROOMS, or none: 1.");
        AloneRooms x = new AloneRooms();
        check.due("door(0, 4, true)", x.door(0, 4, true), 1);
        check.due("digest()", x.digest(), Check.digestOf(5, 0, 1, 0, 0, 0, 0, 0, 0, 0,
                0, 0, 16, 0, 0, 0, 0, 0, 0, 0, 0, 0, 0, 0, 0, 0, 0, 0, 1, 0));
        check.due("door(4, 0, false)", x.door(4, 0, false), 1);
        check.due("digest()", x.digest(), new AloneRooms().digest());
    }

    private static void promise3BadAlikeToo() {
        check.sentence(3, "BAD: alike, too;");
        for (int r : new int[] {5, -1, 8, 32, LOWEST, HIGHEST}) {
            bad("door(" + r + ", 1, true)", x -> x.door(r, 1, true));
            bad("door(1, " + r + ", true)", x -> x.door(1, r, true));
            bad("door(" + r + ", 1, false)", x -> x.door(r, 1, false));
            bad("door(" + r + ", " + r + ", true)", x -> x.door(r, r, true));
        }
        for (int r = 0; r < 5; r++) {
            int room = r;
            bad("door(" + r + ", " + r + ", true)", x -> x.door(room, room, true));
            bad("door(" + r + ", " + r + ", false)", x -> x.door(room, room, false));
        }
        Twins.some(check).dueRefused("door(3, 4, true)", x -> x.door(3, 4, true), -2, Twins.BAD);
    }

    private static void promise3NoItIsSo() {
        check.sentence(3, "NO: it is so.");
        Twins.fresh(check).dueRefused("door(0, 4, false)", x -> x.door(0, 4, false), -3, Twins.NO);
        Twins.some(check).dueRefused("door(2, 1, true)", x -> x.door(2, 1, true), -3, Twins.NO)
                .dueRefused("door(0, 3, false)", x -> x.door(0, 3, false), -3, Twins.NO);
        Twins.full(check).dueRefused("door(3, 4, true)", x -> x.door(3, 4, true), -3, Twins.NO)
                .dueRefused("door(4, 3, true)", x -> x.door(4, 3, true), -3, Twins.NO)
                .dueRefused("door(4, 0, false)", x -> x.door(4, 0, false), -3, Twins.NO);
    }

    private static void promise4OneCatOrNone() {
        check.sentence(4, "A CAT in a ROOM, or none: 1.");
        AloneRooms x = new AloneRooms();
        check.due("cat(0, true)", x.cat(0, true), 1);
        check.due("cat(4, true)", x.cat(4, true), 1);
        check.due("digest()", x.digest(), Check.digestOf(5, 0, 0, 2, 0, 0, 0, 0, 0, 0,
                0, 1, 0, 0, 0, 0, 0, 0, 0, 0, 0, 0, 0, 0, 0, 0, 0, 1, 0, 0));
        check.due("cat(4, false)", x.cat(4, false), 1);
        check.due("cat(0, false)", x.cat(0, false), 1);
        check.due("digest()", x.digest(), new AloneRooms().digest());
    }

    private static void promise4Bad() {
        check.sentence(4, "BAD;");
        for (int r : new int[] {5, -1, 8, 32, LOWEST, HIGHEST}) {
            bad("cat(" + r + ", true)", x -> x.cat(r, true));
            bad("cat(" + r + ", false)", x -> x.cat(r, false));
        }
        Twins.some(check).dueRefused("cat(4, true)", x -> x.cat(4, true), -2, Twins.BAD);
    }

    private static void promise4NoItIsSo() {
        check.sentence(4, "NO: it is so.");
        Twins.fresh(check).dueRefused("cat(4, false)", x -> x.cat(4, false), -3, Twins.NO);
        Twins.some(check).dueRefused("cat(3, true)", x -> x.cat(3, true), -3, Twins.NO)
                .dueRefused("cat(0, false)", x -> x.cat(0, false), -3, Twins.NO);
    }

    private static void promise5WhatTheyWere() {
        check.sentence(5, "PENNIES of a SILL are told: what they were.");
        AloneRooms x = new AloneRooms();
        check.due("lay(0, 1)", x.lay(0, 1), 0);
        check.due("lay(0, 999)", x.lay(0, 999), 1);
        check.due("lay(0, 999) again", x.lay(0, 999), 999);
        x.person(0);
        x.law(1);
        x.beat(0);
        x.beat(0);
        check.due("lay(0, 0) of more than 999", x.lay(0, 0), 1001);
        check.due("lay(0, 0) of none", x.lay(0, 0), 0);
        check.due("purse(0): it is told, not laid", x.purse(0), -2);
    }

    private static void promise5Bad() {
        check.sentence(5, "BAD.");
        for (int v : new int[] {-1, 1000, 1999, LOWEST, HIGHEST}) {
            bad("lay(0, " + v + ")", x -> x.lay(0, v));
        }
        for (int r : new int[] {5, -1, 8, LOWEST, HIGHEST}) {
            bad("lay(" + r + ", 1)", x -> x.lay(r, 1));
        }
        Twins.some(check).dueRefused("lay(4, 1)", x -> x.lay(4, 1), -2, Twins.BAD);
    }

    private static void promise6TheNumber() {
        check.sentence(6, "One of PEOPLE: the number;");
        AloneRooms x = new AloneRooms();
        x.lay(4, 9);
        x.law(1);
        int standing = 0;
        for (int p = 0; p < 4; p++) {
            check.due("person(4)", x.person(4), p);
            standing += 4 << 3 * p;
            check.due("standing()", x.standing(), standing);
        }
        check.due("sill(4): to come is no beat", x.sill(4), 9);
        check.duePurses(x, 0, 0, 0, 0);
        check.due("count(4)", x.count(4), 0);
    }

    private static void promise6NothingMayBeUndone() {
        check.sentence(6, "nothing may be undone then.");
        AloneRooms x = new AloneRooms();
        x.person(0);
        for (int i = 0; i < 8; i++) {
            x.beat(0);
        }
        x.image(0);
        check.due("count(6)", x.count(6), 8);
        check.due("person(1)", x.person(1), 1);
        check.due("count(6)", x.count(6), 0);
        check.due("undo()", x.undo(), -3);
        check.due("count(4): the beats were", x.count(4), 8);
        x.beat(Check.at(0, 1));
        check.due("undo() of a beat behind it", x.undo(), 1);
        check.due("undo()", x.undo(), -3);
        x.from(0);
        check.due("count(6) of the image", x.count(6), 8);
    }

    private static void promise6Bad() {
        check.sentence(6, "BAD;");
        for (int r : new int[] {5, -1, 8, LOWEST, HIGHEST}) {
            bad("person(" + r + ")", x -> x.person(r));
        }
        Twins.some(check).dueRefused("person(4)", x -> x.person(4), -2, Twins.BAD);
    }

    private static void promise6FullOfFour() {
        check.sentence(6, "FULL: 4.");
        Twins.full(check).dueRefused("person(0)", x -> x.person(0), -4, Twins.FULL)
                .dueRefused("person(4)", x -> x.person(4), -4, Twins.FULL);
        AloneRooms x = Check.house("rooms 1;person 0;person 0;person 0;");
        check.due("the fourth", x.person(0), 3);
        check.due("the fifth", x.person(0), -4);
        check.due("count(1)", x.count(1), 4);
    }

    private static void promise7WhatItWas() {
        check.sentence(7, "THE LAW: what it was.");
        AloneRooms x = new AloneRooms();
        int was = 0;
        for (int kind : new int[] {4, 4, 0, 3, 1, 2, 0}) {
            check.due("law(" + kind + ")", x.law(kind), was);
            was = kind;
        }
    }

    private static void promise7Bad() {
        check.sentence(7, "BAD.");
        for (int kind : new int[] {5, -1, LOWEST, HIGHEST}) {
            bad("law(" + kind + ")", x -> x.law(kind));
        }
    }

    private static void promise8WhatItWas() {
        check.sentence(8, "A WISH (room NONE: none): what it was.");
        AloneRooms x = Check.house("rooms 5;person 0;person 1;person 2;person 3;");
        for (int p = 0; p < 4; p += 3) {
            for (int h = 1; h <= 4; h += 3) {
                String wish = "wish(" + p + ", " + h + ", ..)";
                check.due(wish + " NONE at first", x.wish(p, h, -1), -1);
                check.due(wish + " 0", x.wish(p, h, 0), -1);
                check.due(wish + " 4", x.wish(p, h, 4), 0);
                check.due(wish + " 4 again", x.wish(p, h, 4), 4);
                check.due(wish + " NONE", x.wish(p, h, -1), 4);
                check.due(wish + " NONE again", x.wish(p, h, -1), -1);
            }
        }
        check.dueStatus(x, 0, 0, 0);
    }

    private static void promise8Bad() {
        check.sentence(8, "BAD: -10.");
        for (int p : new int[] {4, -1, LOWEST, HIGHEST}) {
            bad("wish(" + p + ", 1, 0)", x -> x.wish(p, 1, 0), -10);
            bad("wish(" + p + ", 1, NONE)", x -> x.wish(p, 1, -1), -10);
        }
        for (int h : new int[] {0, 5, -1, LOWEST, HIGHEST}) {
            bad("wish(0, " + h + ", 0)", x -> x.wish(0, h, 0), -10);
            bad("wish(0, " + h + ", NONE)", x -> x.wish(0, h, -1), -10);
        }
        for (int r : new int[] {5, -2, 8, LOWEST, HIGHEST}) {
            bad("wish(0, 1, " + r + ")", x -> x.wish(0, 1, r), -10);
        }
        Twins.some(check).dueRefused("wish(3, 1, 0)", x -> x.wish(3, 1, 0), -10, Twins.BAD)
                .dueRefused("wish(2, 4, 4)", x -> x.wish(2, 4, 4), -10, Twins.BAD);
        Twins.fresh(check).dueRefused("wish(0, 1, 0)", x -> x.wish(0, 1, 0), -10, Twins.BAD);
    }
}
