import java.util.Arrays;
import java.util.function.ToLongFunction;

/** Boundaries of what was read on sills, of rent and of whims: promises 27 to 31, and their terms. */
public final class EdgeSillTest {
    private static final Check check = new Check("EdgeSillTest");
    private static final int LOWEST = Integer.MIN_VALUE, HIGHEST = Integer.MAX_VALUE;
    private static final String ROUND = "rooms 5;door 0 1;door 0 2;door 0 3;door 0 4;door 1 2;door 1 3;door 1 4;"
            + "door 2 3;door 2 4;door 3 4;";

    public static void main(String[] args) {
        readIsToldOfEachSill();
        fitsOfAllWays();
        wasOfTheseWays();
        rentOfAHermit();
        drawnForTwentyBeats();
        drawnByTheRule();
        drawnOfPenniesAndRooms();
        promise27WhatWasTold();
        promise27Bad();
        promise28Fits();
        promise29Was();
        promise29Bad();
        promise30Rent();
        promise30Bad();
        promise31Drawn();
        promise31Bad();
        check.end();
    }

    private static void bad(String call, ToLongFunction<AloneRooms> asked) {
        Twins.fresh(check).dueRefused(call, asked, -2, Twins.BAD);
        Twins.some(check).dueRefused(call, asked, -2, Twins.BAD);
        Twins.full(check).dueRefused(call, asked, -2, Twins.BAD);
    }

    private static void unchanged(String call, ToLongFunction<AloneRooms> asked) {
        Twins.fresh(check).dueUnchanged(call, asked);
        Twins.some(check).dueUnchanged(call, asked);
        Twins.full(check).dueUnchanged(call, asked);
    }

    // ---- terms

    private static void readIsToldOfEachSill() {
        check.sentence(0, "READ: SILLS as they are behind the next BEAT are told (0 .. 1999 each, 0 at first):");
        AloneRooms x = new AloneRooms();
        for (int r = 0; r < 5; r++) {
            check.due("spy(" + r + ", 1999)", x.spy(r, 1999), 0);
            check.due("spy(" + r + ", 2000)", x.spy(r, 2000), -2);
            check.due("spy(" + r + ", -1)", x.spy(r, -1), -2);
            check.due("spy(" + r + ", 0)", x.spy(r, 0), 1999);
        }
        check.dueSills(x, 0, 0, 0, 0, 0);
        AloneRooms next = Check.house("rooms 1;sill 0 999;person 0;law 1;");
        next.spy(0, 1000);
        check.due("fits(): as it will be, beyond 999 too", next.fits(), 1);
        next.beat(0);
        check.due("fits(): as it is, but not behind the next beat", next.fits(), 0);
        next.spy(0, 1001);
        check.due("fits(): what was told stays behind a beat", next.fits(), 1);
    }

    private static void fitsOfAllWays() {
        check.sentence(0, "FITS: in how many ways all may go, so that it is so.");
        check.due("fits() of nobody", new AloneRooms().fits(), 1);
        AloneRooms told = new AloneRooms();
        told.spy(4, 1);
        check.due("fits() of nobody, who lays nothing", told.fits(), 0);
        AloneRooms x = Check.house(ROUND + "law 3;");
        x.beat(0);
        int ways = 1;
        for (int p = 0; p < 4; p++) {
            x.person(p);
            ways *= 5;
            check.due("fits(): all ways of " + (p + 1), x.fits(), ways);
        }
        for (int r = 0; r < 5; r++) {
            x.lay(r, 1);
            x.spy(r, 1);
        }
        check.due("fits(): nobody gathers, each is alone", x.fits(), 120);
        x.spy(4, 0);
        check.due("fits(): 4 is gathered, no other room is", x.fits(), fourGathered());
    }

    /** Of people 0 to 3 in rooms 0 to 3: two at least go to room 4, and others are apart. */
    private static int fourGathered() {
        int two = 6 * 4 * 3;
        int three = 4 * 4;
        int four = 1;
        return two + three + four;
    }

    private static void wasOfTheseWays() {
        check.sentence(0, "WAS: in how many of these one is ALONE in a ROOM.");
        AloneRooms x = Check.house(ROUND + "person 0;person 1;person 2;person 3;law 3;");
        x.beat(x.standing());
        for (int r = 0; r < 5; r++) {
            x.lay(r, 0);
        }
        check.due("fits()", x.fits(), 625);
        for (int p = 0; p < 4; p++) {
            for (int r = 0; r < 5; r++) {
                check.due("was(" + p + ", " + r + ")", x.was(p, r), 64);
            }
        }
        x.cat(4, true);
        check.due("was(0, 4): with a cat", x.was(0, 4), 0);
        x.lay(0, 1);
        check.due("fits(): 0 is gathered", x.fits(), gatheredZero());
        check.due("was(1, 0): it is gathered by two", x.was(1, 0), 0);
        x.spy(1, 5);
        check.due("was(0, 1): of no ways", x.was(0, 1), 0);
    }

    /** Person 0 is in room 0, others are not: ways by which two at least are there, one of whom came. */
    private static int gatheredZero() {
        int all = 625;
        int nobody = 4 * 4 * 4 * 4;
        int one = 4 * 4 * 4 * 4;
        return all - nobody - one;
    }

    private static void rentOfAHermit() {
        check.sentence(0, "RENT of a hermit, who is ALONE all the time, from now on for k (0 .. 99) BEATS "
                + "(he was, ahead of them, 1, or not, 0): by THE LAW, staying.");
        for (int beats = 0; beats < 2; beats++) {
            AloneRooms x = new AloneRooms();
            for (int i = 0; i < beats; i++) {
                x.beat(0);
            }
            for (int k : new int[] {0, 1, 2, 3, 98, 99}) {
                int odd = beats == 0 ? (k + 1) / 2 : k / 2;
                int[] not = {Math.min(k, 1), k, Math.min(k, 1), odd, 0};
                int[] was = {0, k, 0, odd, 0};
                for (int law = 0; law < 5; law++) {
                    x.law(law);
                    check.due("rent(" + k + ", 0) by " + law + " behind " + beats, x.rent(k, 0), not[law]);
                    check.due("rent(" + k + ", 1) by " + law + " behind " + beats, x.rent(k, 1), was[law]);
                }
            }
            check.due("rent(100, 0)", x.rent(100, 0), -2);
            check.due("rent(-1, 0)", x.rent(-1, 0), -2);
            check.due("rent(0, 2)", x.rent(0, 2), -2);
            check.due("rent(0, -1)", x.rent(0, -1), -2);
        }
    }

    private static void drawnForTwentyBeats() {
        check.sentence(0, "DRAWN by a SEED (0 .. 999999) for y BEATS (0 .. 20):");
        AloneRooms x = Check.house("rooms 5;person 0;person 4;law 1;");
        for (int seed : new int[] {0, 1, 999998, 999999}) {
            for (int y = 0; y <= 20; y++) {
                check.due("drawn(" + seed + ", " + y + ", 0)", x.drawn(seed, y, 0), 2 * y);
                check.due("drawn(" + seed + ", " + y + ", 1)", x.drawn(seed, y, 1), 2);
            }
        }
        for (int what = 0; what < 2; what++) {
            check.due("drawn(-1, 1, " + what + ")", x.drawn(-1, 1, what), -2);
            check.due("drawn(1000000, 1, " + what + ")", x.drawn(1000000, 1, what), -2);
            check.due("drawn(0, -1, " + what + ")", x.drawn(0, -1, what), -2);
            check.due("drawn(0, 21, " + what + ")", x.drawn(0, 21, what), -2);
        }
    }

    /** The rule by int arithmetic: 2147483648 what is left over is all but the highest bit. */
    private static int next(int x) {
        return x * 1103515245 + 12345 & Integer.MAX_VALUE;
    }

    private static void drawnByTheRule() {
        check.sentence(0, "X is SEED at first; in each BEAT for each of PEOPLE X becomes X times 1103515245 and 12345, "
                + "by 2147483648 what is left over; X by 65536 (cut), by how many ROOMS he may be in then left over, is r: "
                + "he goes to that with number r of these (rising, his own one, too):");
        int[] may = {0, 2, 4};
        for (int seed : new int[] {0, 1, 2, 3, 4, 5, 6, 7, 8, 9, 65536, 999998, 999999}) {
            int room = may[(next(seed) >>> 16) % 3];
            for (int cat = 0; cat < 5; cat++) {
                AloneRooms x = Check.house("rooms 5;door 2 4;door 2 0;person 2;law 1;cat " + cat + ";");
                check.due("drawn(" + seed + ", 1, 0), a cat in " + cat, x.drawn(seed, 1, 0), room == cat ? 0 : 1);
            }
        }
        dueRule("in a row", new int[] {3, 7, 14, 28, 24}, "rooms 5;door 0 1;door 1 2;door 2 3;door 3 4;law 1;");
        dueRule("all joined", new int[] {31, 31, 31, 31, 31}, ROUND + "law 1;");
        dueRule("two and two joined", new int[] {3, 3, 4, 24, 24}, "rooms 5;door 0 1;door 3 4;law 1;");
    }

    /** One to four people by the rule; of each room, as bits, the rooms where one of it may be then. */
    private static void dueRule(String name, int[] reach, String text) {
        int[] start = {0, 3, 3, 1};
        for (int people = 1; people <= 4; people++) {
            for (int seed : new int[] {0, 1, 77, 123456, 999999}) {
                AloneRooms x = Check.house(text);
                for (int p = 0; p < people; p++) {
                    x.person(start[p]);
                }
                dueDrawn(name, x, reach, Arrays.copyOf(start, people), seed);
            }
        }
    }

    private static void dueDrawn(String name, AloneRooms x, int[] reach, int[] rooms, int seed) {
        int value = seed;
        int laid = 0;
        for (int y = 0; y <= 20; y++) {
            int[] here = new int[5];
            for (int r : rooms) {
                here[r]++;
            }
            int peopled = 0;
            for (int r = 0; r < 5; r++) {
                peopled += here[r] > 0 ? 1 : 0;
                laid += y > 0 && here[r] == 1 ? 1 : 0;
            }
            String call = "drawn(" + seed + ", " + y + ", ..) of " + rooms.length + ", " + name;
            check.due(call + " pennies", x.drawn(seed, y, 0), laid);
            check.due(call + " rooms", x.drawn(seed, y, 1), peopled);
            for (int p = 0; p < rooms.length; p++) {
                value = next(value);
                int may = reach[rooms[p]];
                int left = (value >>> 16) % Integer.bitCount(may);
                int to = 0;
                while (left > 0 || (may >> to & 1) == 0) {
                    left -= may >> to & 1;
                    to++;
                }
                rooms[p] = to;
            }
        }
    }

    private static void drawnOfPenniesAndRooms() {
        check.sentence(0, "PENNIES laid in all; in how many ROOMS there are PEOPLE then.");
        AloneRooms x = new AloneRooms();
        check.due("PENNIES of nobody", x.drawn(0, 20, 0), 0);
        check.due("ROOMS of nobody", x.drawn(0, 20, 1), 0);
        for (int p = 0; p < 4; p++) {
            x.person(p);
            check.due("PENNIES by no beat", x.drawn(5, 0, 0), 0);
            check.due("ROOMS by no beat", x.drawn(5, 0, 1), p + 1);
        }
        check.due("PENNIES by ONCE, all stay", x.drawn(5, 20, 0), 0);
        x.law(1);
        check.due("PENNIES by EACH, all stay", x.drawn(5, 20, 0), 80);
        x.law(3);
        check.due("PENNIES by SLEEP from an even beat", x.drawn(5, 19, 0), 40);
        x.beat(x.standing());
        check.due("PENNIES by SLEEP from an odd beat", x.drawn(5, 19, 0), 36);
        check.due("what is other than these", x.drawn(5, 0, 2), -2);
    }

    // ---- promises

    private static void promise27WhatWasTold() {
        check.sentence(27, "PENNIES that were READ on a SILL: what was told.");
        AloneRooms x = new AloneRooms();
        for (int r = 0; r < 5; r += 4) {
            check.due("spy(" + r + ", 0)", x.spy(r, 0), 0);
            check.due("spy(" + r + ", 1)", x.spy(r, 1), 0);
            check.due("spy(" + r + ", 1999)", x.spy(r, 1999), 1);
            check.due("spy(" + r + ", 1999) again", x.spy(r, 1999), 1999);
            check.due("spy(" + r + ", 1000)", x.spy(r, 1000), 1999);
            check.due("spy(" + r + ", 0)", x.spy(r, 0), 1000);
        }
        check.due("digest()", x.digest(), new AloneRooms().digest());
        check.dueStatus(x, 0, 0, 0);
    }

    private static void promise27Bad() {
        check.sentence(27, "BAD.");
        for (int v : new int[] {-1, 2000, LOWEST, HIGHEST}) {
            bad("spy(0, " + v + ")", x -> x.spy(0, v));
        }
        for (int r : new int[] {5, -1, 8, LOWEST, HIGHEST}) {
            bad("spy(" + r + ", 0)", x -> x.spy(r, 0));
        }
        Twins.some(check).dueRefused("spy(4, 0)", x -> x.spy(4, 0), -2, Twins.BAD);
    }

    private static void promise28Fits() {
        check.sentence(28, "FITS.");
        unchanged("fits()", x -> x.fits());
        AloneRooms x = Check.house("rooms 2;door 0 1;person 0;person 0;");
        check.due("fits(): both stay, or both go", x.fits(), 2);
        x.spy(0, 1);
        x.spy(1, 1);
        check.due("fits(): one goes", x.fits(), 2);
        x.spy(1, 2);
        check.due("fits(): none", x.fits(), 0);
    }

    private static void promise29Was() {
        check.sentence(29, "WAS.");
        Twins.some(check).dueUnchanged("was(0, 0)", x -> x.was(0, 0));
        Twins.some(check).dueUnchanged("was(2, 3)", x -> x.was(2, 3));
        Twins.full(check).dueUnchanged("was(3, 4)", x -> x.was(3, 4));
        AloneRooms x = Check.house("rooms 2;door 0 1;person 0;person 0;");
        x.spy(0, 1);
        x.spy(1, 1);
        for (int p = 0; p < 2; p++) {
            check.due("was(" + p + ", 0)", x.was(p, 0), 1);
            check.due("was(" + p + ", 1)", x.was(p, 1), 1);
        }
        x.spy(0, 0);
        x.spy(1, 0);
        check.due("was(0, 0): together in all ways", x.was(0, 0), 0);
    }

    private static void promise29Bad() {
        check.sentence(29, "BAD.");
        for (int p : new int[] {4, -1, LOWEST, HIGHEST}) {
            bad("was(" + p + ", 0)", x -> x.was(p, 0));
        }
        for (int r : new int[] {5, -1, 8, LOWEST, HIGHEST}) {
            bad("was(0, " + r + ")", x -> x.was(0, r));
        }
        Twins.fresh(check).dueRefused("was(0, 0)", x -> x.was(0, 0), -2, Twins.BAD);
        Twins.some(check).dueRefused("was(3, 0)", x -> x.was(3, 0), -2, Twins.BAD)
                .dueRefused("was(0, 4)", x -> x.was(0, 4), -2, Twins.BAD);
    }

    private static void promise30Rent() {
        check.sentence(30, "RENT.");
        for (int k : new int[] {0, 1, 99}) {
            unchanged("rent(" + k + ", 0)", x -> x.rent(k, 0));
            unchanged("rent(" + k + ", 1)", x -> x.rent(k, 1));
        }
        Twins.some(check).dueAsked("rent(99, 0) by SLEEP, behind three beats", x -> x.rent(99, 0), 49);
        Twins.full(check).dueAsked("rent(99, 0) by COMERS", x -> x.rent(99, 0), 0);
    }

    private static void promise30Bad() {
        check.sentence(30, "BAD.");
        for (int k : new int[] {-1, 100, LOWEST, HIGHEST}) {
            bad("rent(" + k + ", 0)", x -> x.rent(k, 0));
            bad("rent(" + k + ", 1)", x -> x.rent(k, 1));
        }
        for (int ahead : new int[] {-1, 2, LOWEST, HIGHEST}) {
            bad("rent(0, " + ahead + ")", x -> x.rent(0, ahead));
            bad("rent(99, " + ahead + ")", x -> x.rent(99, ahead));
        }
    }

    private static void promise31Drawn() {
        check.sentence(31, "DRAWN: PENNIES (0), ROOMS (1).");
        for (int what = 0; what < 2; what++) {
            int asked = what;
            unchanged("drawn(0, 0, " + what + ")", x -> x.drawn(0, 0, asked));
            unchanged("drawn(999999, 20, " + what + ")", x -> x.drawn(999999, 20, asked));
        }
        Twins.some(check).dueAsked("drawn(3, 0, 1)", x -> x.drawn(3, 0, 1), 3);
        Twins.full(check).dueAsked("drawn(3, 0, 0)", x -> x.drawn(3, 0, 0), 0);
    }

    private static void promise31Bad() {
        check.sentence(31, "BAD.");
        for (int seed : new int[] {-1, 1000000, LOWEST, HIGHEST}) {
            bad("drawn(" + seed + ", 0, 0)", x -> x.drawn(seed, 0, 0));
            bad("drawn(" + seed + ", 20, 1)", x -> x.drawn(seed, 20, 1));
        }
        for (int y : new int[] {-1, 21, LOWEST, HIGHEST}) {
            bad("drawn(0, " + y + ", 0)", x -> x.drawn(0, y, 0));
            bad("drawn(0, " + y + ", 1)", x -> x.drawn(0, y, 1));
        }
        for (int what : new int[] {-1, 2, LOWEST, HIGHEST}) {
            bad("drawn(0, 0, " + what + ")", x -> x.drawn(0, 0, what));
            bad("drawn(0, 20, " + what + ")", x -> x.drawn(0, 20, what));
        }
    }
}
