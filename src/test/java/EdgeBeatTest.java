import java.util.function.ToLongFunction;

/** Boundaries of beats, laws, gathering and undoing: promises 12 to 17, and their terms. */
public final class EdgeBeatTest {
    private static final Check check = new Check("EdgeBeatTest");
    private static final int LOWEST = Integer.MIN_VALUE, HIGHEST = Integer.MAX_VALUE;

    public static void main(String[] args) {
        eachStaysOrGoesAllAtOnce();
        lawsTellWhoLays();
        lawOnce();
        lawEach();
        lawHalves();
        lawSleep();
        lawComers();
        gatheringIsBehindAllThatIsLaid();
        gatheringNeedsTwo();
        gatheringNeedsOneWhoCame();
        gatheringIsOfTheEldestWhoCame();
        undoEightAtMost();
        undoOfSillsPursesAndWhereAllAre();
        standingsToTheBaseEight();
        promise12HowManyAreLaid();
        promise12Bad();
        promise12NoOneCanNotGetThere();
        promise13One();
        promise13NoNoneMayBe();
        promise14TheStanding();
        promise15PenniesOfASill();
        promise15Bad();
        promise16APurse();
        promise16Bad();
        promise17WhetherAlone();
        promise17Bad();
        check.end();
    }

    private static void bad(String call, ToLongFunction<AloneRooms> asked, int answer) {
        Twins.fresh(check).dueRefused(call, asked, answer, Twins.BAD);
        Twins.some(check).dueRefused(call, asked, answer, Twins.BAD);
        Twins.full(check).dueRefused(call, asked, answer, Twins.BAD);
    }

    // ---- terms

    private static void eachStaysOrGoesAllAtOnce() {
        check.sentence(0, "A BEAT: each stays, or goes through a DOOR, all at once.");
        AloneRooms x = Check.house("rooms 4;door 0 1;door 1 2;person 0;person 1;person 2;person 3;");
        check.due("all stay", x.beat(Check.at(0, 1, 2, 3)), 0);
        check.due("one goes two doors at once", x.beat(Check.at(2, 1, 2, 3)), -3);
        check.due("all but one go on, each to where another was", x.beat(Check.at(1, 2, 1, 3)), 1);
        check.due("two change places with a third", x.beat(Check.at(2, 1, 2, 3)), 1);
        check.due("one goes where there is no door", x.beat(Check.at(2, 1, 2, 2)), -3);
        check.due("count(4)", x.count(4), 3);
        AloneRooms two = Check.house("rooms 2;door 0 1;person 0;person 1;sill 0 5;sill 1 5;");
        check.due("two change places and do not meet", two.beat(Check.at(1, 0)), 2);
        check.duePurses(two, -1, -1);
        check.dueSills(two, 6, 6);
    }

    private static void lawsTellWhoLays() {
        check.sentence(0, "LAWS, each under the one told (0 at first), tell who lays a PENNY then "
                + "(from his PURSE on the SILL of the ROOM where he is), and who GATHERS:");
        check.due("law(4) of a new one", new AloneRooms().law(4), 0);
        AloneRooms x = Check.house("rooms 3;door 0 1;door 1 2;person 0;sill 0 999;sill 1 999;");
        check.due("beat(1)", x.beat(1), 1);
        check.dueSills(x, 999, 1000, 0);
        check.duePurses(x, -1);
        check.due("beat(2)", x.beat(2), 1);
        check.dueSills(x, 999, 1000, 1);
        check.duePurses(x, -2);
    }

    /**
     * Who lays in a beat, one way of coming to be alone by another. In a house of five rooms in a
     * row with a cat in room 4, person 0 and person 1.
     */
    private static void dueLaid(int law, boolean even, int[] laid) {
        String by = " by law " + law + (even ? " in an even beat" : " in an odd beat");
        check.due("both stay alone" + by, laid(law, even, Check.at(0, 2), Check.at(0, 2)), laid[0]);
        check.due("one is left alone, one goes away" + by, laid(law, even, Check.at(1, 1), Check.at(1, 2)), laid[1]);
        check.due("both go, each alone" + by, laid(law, even, Check.at(0, 3), Check.at(1, 2)), laid[2]);
        check.due("both go away from one another" + by, laid(law, even, Check.at(1, 1), Check.at(0, 2)), laid[3]);
        check.due("they change places" + by, laid(law, even, Check.at(1, 2), Check.at(2, 1)), laid[4]);
        check.due("away from a cat, one stays with it" + by, laid(law, even, Check.at(4, 4), Check.at(3, 4)), laid[5]);
        check.due("to where the other one was, who goes to a cat" + by, laid(law, even, Check.at(2, 3), Check.at(3, 4)), laid[6]);
        check.due("they meet" + by, laid(law, even, Check.at(1, 3), Check.at(2, 2)), 0);
        check.due("both stay together" + by, laid(law, even, Check.at(1, 1), Check.at(1, 1)), 0);
        check.due("both with a cat" + by, laid(law, even, Check.at(3, 4), Check.at(4, 4)), 0);
    }

    private static int laid(int law, boolean even, int from, int to) {
        AloneRooms x = Check.house("rooms 5;door 0 1;door 1 2;door 2 3;door 3 4;cat 4;");
        x.person(from % 8);
        x.person(from / 8);
        x.law(law);
        if (even) {
            x.beat(from);
        }
        int purses = x.purse(0) + x.purse(1);
        int laid = x.beat(to);
        check.due("from the purses", purses - x.purse(0) - x.purse(1), laid);
        return laid;
    }

    private static void lawOnce() {
        check.sentence(0, "0 ONCE: who is ALONE behind it, and was not ALONE in that ROOM ahead of it, lays.");
        int[] laid = {0, 2, 2, 2, 2, 1, 1};
        dueLaid(0, false, laid);
        dueLaid(0, true, laid);
        AloneRooms x = Check.house("rooms 3;door 0 1;cat 1;person 0;");
        check.due("alone, then with a cat", x.beat(1), 0);
        check.due("alone once more", x.beat(0), 1);
        check.due("and staying", x.beat(0), 0);
    }

    private static void lawEach() {
        check.sentence(0, "1 EACH (under ONCE): who is ALONE behind it lays.");
        int[] laid = {2, 2, 2, 2, 2, 1, 1};
        dueLaid(1, false, laid);
        dueLaid(1, true, laid);
    }

    private static void lawHalves() {
        check.sentence(0, "2 HALVES (under ONCE): as ONCE; of what is GATHERED half, cut, goes to the eldest other one in that ROOM.");
        int[] laid = {0, 2, 2, 2, 2, 1, 1};
        dueLaid(2, false, laid);
        dueLaid(2, true, laid);
        dueHalves(2);
        for (int law : new int[] {0, 1, 3}) {
            check.due("no halves by law " + law, gathered(law, 999, "10", Check.at(1, 1)).purse(1), 999);
        }
    }

    private static void dueHalves(int law) {
        for (int v : new int[] {0, 1, 2, 3, 998, 999}) {
            check.duePurses(gathered(law, v, "01", Check.at(1, 1)), v - v / 2, v / 2);
            check.duePurses(gathered(law, v, "10", Check.at(1, 1)), v / 2, v - v / 2);
        }
        check.duePurses(gathered(law, 7, "011", Check.at(1, 1, 1)), 4, 3, 0);
        check.duePurses(gathered(law, 7, "101", Check.at(1, 1, 1)), 3, 4, 0);
        check.duePurses(gathered(law, 7, "110", Check.at(1, 1, 1)), 3, 0, 4);
        check.duePurses(gathered(law, 7, "000", Check.at(1, 1, 1)), 4, 3, 0);
        check.duePurses(gathered(law, 7, "1000", Check.at(1, 1, 1, 1)), 3, 4, 0, 0);
        check.duePurses(gathered(law, 7, "1100", Check.at(1, 1, 1, 1)), 3, 0, 4, 0);
        check.duePurses(gathered(law, 7, "1110", Check.at(1, 1, 1, 1)), 3, 0, 0, 4);
    }

    /** A beat of two rooms by people in the rooms that are told, v pennies on the sill of room 1. */
    private static AloneRooms gathered(int law, int v, String rooms, int to) {
        AloneRooms x = Check.house("rooms 2;door 0 1;sill 1 " + v + ";law " + law + ";");
        for (int p = 0; p < rooms.length(); p++) {
            x.person(rooms.charAt(p) - '0');
        }
        x.beat(to);
        check.due("sill(1) is gathered", x.sill(1), 0);
        return x;
    }

    private static void lawSleep() {
        check.sentence(0, "3 SLEEP (under EACH): as EACH, but in even BEATS (the first is 1) nobody lays.");
        dueLaid(3, false, new int[] {2, 2, 2, 2, 2, 1, 1});
        dueLaid(3, true, new int[] {0, 0, 0, 0, 0, 0, 0});
        AloneRooms x = Check.house("rooms 1;person 0;law 3;");
        for (int beat = 1; beat <= 10; beat++) {
            check.due("beat " + beat, x.beat(0), beat % 2);
        }
        AloneRooms late = Check.house("rooms 1;person 0;");
        late.beat(0);
        late.law(3);
        check.due("the second, the law is told behind the first", late.beat(0), 0);
        check.due("the third", late.beat(0), 1);
        late.undo();
        late.undo();
        check.due("the second again, as it was undone", late.beat(0), 0);
        check.due("the third again", late.beat(0), 1);
        AloneRooms gathers = Check.house("rooms 2;door 0 1;person 0;person 0;sill 1 6;law 3;");
        gathers.beat(0);
        check.due("in an even beat it is gathered", gathers.beat(Check.at(1, 1)), 0);
        check.duePurses(gathers, 6, 0);
    }

    private static void lawComers() {
        check.sentence(0, "4 COMERS (under HALVES): as HALVES, but who stayed lays nothing.");
        int[] laid = {0, 1, 2, 2, 2, 1, 1};
        dueLaid(4, false, laid);
        dueLaid(4, true, laid);
        dueHalves(4);
    }

    private static void gatheringIsBehindAllThatIsLaid() {
        check.sentence(0, "GATHERING, behind all that is laid:");
        AloneRooms x = Check.house("rooms 4;door 0 1;door 1 2;door 2 3;person 0;person 2;person 2;person 3;sill 1 5;");
        check.due("one lays, two meet, one stays alone", x.beat(Check.at(1, 1, 2, 3)), 1);
        check.duePurses(x, 5, 0, -1, 0);
        check.dueSills(x, 0, 0, 1, 0);
        check.due("what was laid is gathered, what is laid lies", x.beat(Check.at(0, 2, 2, 3)), 1);
        check.duePurses(x, 4, 1, -1, 0);
        check.dueSills(x, 1, 0, 0, 0);
    }

    private static void gatheringNeedsTwo() {
        check.sentence(0, "in each ROOM with two PEOPLE at least,");
        AloneRooms one = Check.house("rooms 2;door 0 1;person 0;sill 1 5;");
        one.beat(1);
        check.due("sill(1): one is not two", one.sill(1), 6);
        AloneRooms cat = Check.house("rooms 2;door 0 1;person 0;person 0;sill 1 5;cat 1;");
        cat.beat(Check.at(1, 0));
        check.due("sill(1): a cat is not one of people", cat.sill(1), 5);
        check.duePurses(cat, 0, -1);
        cat.beat(Check.at(1, 1));
        check.due("sill(1): two with a cat are two", cat.sill(1), 0);
        check.duePurses(cat, 0, 4);
        AloneRooms both = Check.house("rooms 5;door 0 1;door 3 4;person 0;person 4;person 1;person 3;sill 0 1;sill 1 20;sill 3 300;sill 4 4;");
        both.beat(Check.at(1, 3, 1, 3));
        check.dueSills(both, 1, 0, 0, 0, 4);
        check.duePurses(both, 20, 300, 0, 0);
        AloneRooms all = Check.house("rooms 2;door 0 1;person 0;person 0;person 0;person 0;sill 1 8;");
        all.beat(Check.at(1, 1, 1, 1));
        check.duePurses(all, 8, 0, 0, 0);
        check.dueSills(all, 0, 0);
    }

    private static void gatheringNeedsOneWhoCame() {
        check.sentence(0, "of whom one at least came in this BEAT,");
        AloneRooms x = Check.house("rooms 3;door 0 1;door 1 2;person 1;person 1;person 1;person 0;sill 0 3;sill 1 9;");
        x.beat(Check.at(1, 1, 1, 0));
        check.dueSills(x, 3, 9, 0);
        x.beat(Check.at(1, 1, 2, 0));
        check.dueSills(x, 3, 9, 1);
        x.beat(Check.at(1, 1, 2, 1));
        check.dueSills(x, 3, 0, 1);
        check.duePurses(x, 0, 0, -1, 9);
        x.lay(1, 4);
        x.beat(Check.at(1, 1, 2, 1));
        check.dueSills(x, 3, 4, 1);
        AloneRooms placed = Check.house("rooms 1;sill 0 9;person 0;person 0;");
        placed.beat(0);
        check.due("sill(0): to be placed is not to come", placed.sill(0), 9);
    }

    private static void gatheringIsOfTheEldestWhoCame() {
        check.sentence(0, "the eldest of those who came GATHERS all of the SILL (into his PURSE).");
        check.duePurses(gathered(0, 999, "0000", Check.at(1, 1, 1, 1)), 999, 0, 0, 0);
        check.duePurses(gathered(0, 999, "1000", Check.at(1, 1, 1, 1)), 0, 999, 0, 0);
        check.duePurses(gathered(0, 999, "1100", Check.at(1, 1, 1, 1)), 0, 0, 999, 0);
        check.duePurses(gathered(0, 999, "1110", Check.at(1, 1, 1, 1)), 0, 0, 0, 999);
        check.duePurses(gathered(0, 999, "0110", Check.at(1, 1, 1, 1)), 999, 0, 0, 0);
        AloneRooms x = Check.house("rooms 2;door 0 1;person 1;person 0;sill 1 999;law 1;");
        x.beat(Check.at(1, 0));
        x.beat(Check.at(1, 0));
        check.dueSills(x, 2, 1001);
        check.due("they meet", x.beat(Check.at(1, 1)), 0);
        check.duePurses(x, -2, -2 + 1001);
        check.dueSills(x, 2, 0);
    }

    private static void undoEightAtMost() {
        check.sentence(0, "UNDO: as ahead of the last BEAT (8 at most;");
        for (int beats = 0; beats <= 10; beats++) {
            AloneRooms x = Check.house("rooms 2;door 0 1;person 0;");
            for (int i = 1; i <= beats; i++) {
                x.beat(i % 2);
            }
            int may = Math.min(beats, 8);
            check.due("count(6) behind " + beats, x.count(6), may);
            for (int i = 1; i <= may; i++) {
                check.due("undo() " + i + " of " + beats, x.undo(), 1);
                check.due("count(4)", x.count(4), beats - i);
                check.due("count(6)", x.count(6), may - i);
                check.due("standing()", x.standing(), (beats - i) % 2);
            }
            check.due("undo() of no more of " + beats, x.undo(), -3);
            check.due("count(4)", x.count(4), beats - may);
        }
    }

    private static void undoOfSillsPursesAndWhereAllAre() {
        check.sentence(0, "SILLS, PURSES, where all are).");
        AloneRooms x = Check.house("rooms 5;door 0 1;door 3 4;person 0;person 3;person 4;person 1;sill 0 9;sill 1 8;sill 2 7;sill 3 6;sill 4 5;");
        long before = x.digest();
        x.beat(Check.at(1, 4, 4, 0));
        check.duePurses(x, -1, 5, 0, -1);
        check.dueSills(x, 10, 9, 7, 6, 0);
        for (int r = 0; r < 5; r++) {
            x.lay(r, 100 + r);
        }
        check.due("undo()", x.undo(), 1);
        check.due("digest(): all is as it was", x.digest(), before);
        check.dueSills(x, 9, 8, 7, 6, 5);
        check.duePurses(x, 0, 0, 0, 0);
        x.law(1);
        long[] ahead = new long[8];
        for (int i = 0; i < 8; i++) {
            ahead[i] = x.digest();
            x.beat(i % 2 == 0 ? Check.at(1, 4, 4, 0) : Check.at(0, 3, 4, 1));
        }
        for (int i = 7; i >= 0; i--) {
            x.undo();
            check.due("digest() as ahead of beat " + (i + 1), x.digest(), ahead[i]);
            check.due("purse(3), who lays each time", x.purse(3), -i);
        }
        x.beat(x.standing());
        x.law(4);
        x.cat(1, true);
        x.door(1, 2, true);
        x.wish(3, 1, 4);
        x.plan(0);
        x.spy(4, 1999);
        x.undo();
        check.due("count(2): doors stay as told", x.count(2), 3);
        check.due("count(3): cats stay as told", x.count(3), 1);
        check.due("count(5): the plan stays", x.count(5), 1);
        check.due("law: it stays", x.law(0), 4);
        check.due("wish: it stays", x.wish(3, 1, -1), 4);
        check.due("spy: what was told stays", x.spy(4, 0), 1999);
    }

    private static void standingsToTheBaseEight() {
        check.sentence(0, "A STANDING is told as a number to the base 8, PERSON 0's ROOM the lowest figure (beyond the last one 0).");
        AloneRooms x = new AloneRooms();
        int most = 0;
        for (int p = 0; p <= 4; p++) {
            check.due("standing() of " + p, x.standing(), most);
            dueStanding(x, most, true);
            dueStanding(x, most + (1 << 3 * p), false);
            dueStanding(x, most + (4 << 3 * p), false);
            dueStanding(x, most + (1 << 15), false);
            dueStanding(x, most + (1 << 30), false);
            dueStanding(x, most + LOWEST, false);
            for (int q = 0; q < p; q++) {
                for (int figure = 5; figure < 8; figure++) {
                    dueStanding(x, most - (4 << 3 * q) + (figure << 3 * q), false);
                }
            }
            if (p < 4) {
                x.person(4);
                most += 4 << 3 * p;
            }
        }
    }

    private static void dueStanding(AloneRooms x, int standing, boolean is) {
        check.due("fewest(" + standing + ") of " + x.count(1), x.fewest(standing), is ? 0 : -2);
        check.due("beat(" + standing + ") of " + x.count(1), x.beat(standing), is ? 0 : -2);
        check.due("plan(" + standing + ") of " + x.count(1), x.plan(standing), is ? 1 : -2);
        x.scrap();
    }

    // ---- promises

    private static void promise12HowManyAreLaid() {
        check.sentence(12, "A BEAT to a STANDING: how many PENNIES are laid.");
        for (int people = 0; people <= 4; people++) {
            AloneRooms x = new AloneRooms();
            for (int p = 0; p < people; p++) {
                x.person(p);
            }
            x.law(1);
            int standing = x.standing();
            check.due("each alone, of " + people, x.beat(standing), people);
            check.due("standing()", x.standing(), standing);
            check.due("count(4)", x.count(4), 1);
            check.due("count(6)", x.count(6), 1);
        }
    }

    private static void promise12Bad() {
        check.sentence(12, "BAD;");
        for (int standing : new int[] {-1, 5, 7, 4096, 8 * 4096, LOWEST, HIGHEST, LOWEST + 1}) {
            bad("beat(" + standing + ")", x -> x.beat(standing), -2);
        }
        Twins.fresh(check).dueRefused("beat(1) of nobody", x -> x.beat(1), -2, Twins.BAD);
        Twins.some(check).dueRefused("beat to room 4 of four", x -> x.beat(Check.at(4, 1, 3)), -2, Twins.BAD)
                .dueRefused("beat of one too many", x -> x.beat(Check.at(0, 1, 3, 1)), -2, Twins.BAD);
    }

    private static void promise12NoOneCanNotGetThere() {
        check.sentence(12, "NO: one can not get there.");
        Twins.some(check).dueRefused("0 can not", x -> x.beat(Check.at(2, 1, 3)), -3, Twins.NO)
                .dueRefused("1 can not", x -> x.beat(Check.at(0, 3, 3)), -3, Twins.NO)
                .dueRefused("2 can not", x -> x.beat(Check.at(0, 1, 0)), -3, Twins.NO);
        Twins.full(check).dueRefused("3 can not", x -> x.beat(Check.at(0, 1, 2, 0)), -3, Twins.NO);
        AloneRooms x = Check.house("rooms 2;person 0;");
        check.due("no door", x.beat(1), -3);
        x.door(0, 1, true);
        check.due("a door", x.beat(1), 1);
        x.door(0, 1, false);
        check.due("no door any more", x.beat(0), -3);
    }

    private static void promise13One() {
        check.sentence(13, "UNDO: 1.");
        AloneRooms x = Check.house("rooms 2;door 0 1;person 0;");
        long before = x.digest();
        x.beat(1);
        check.due("undo()", x.undo(), 1);
        check.due("digest()", x.digest(), before);
        AloneRooms nobody = new AloneRooms();
        nobody.beat(0);
        check.due("undo() of nobody's beat", nobody.undo(), 1);
        check.due("digest()", nobody.digest(), new AloneRooms().digest());
        check.dueStatus(x, 0, 0, 0);
    }

    private static void promise13NoNoneMayBe() {
        check.sentence(13, "NO: none may be.");
        Twins.fresh(check).dueRefused("undo()", x -> x.undo(), -3, Twins.NO);
        Twins.someThen(check, x -> x.person(0)).dueRefused("undo() behind person", x -> x.undo(), -3, Twins.NO);
        Twins.someThen(check, x -> x.rooms(3)).dueRefused("undo() behind rooms", x -> x.undo(), -3, Twins.NO);
        Twins.someThen(check, x -> x.read()).dueRefused("undo() behind read", x -> x.undo(), -3, Twins.NO);
        Twins.someThen(check, x -> {
            x.undo();
            x.undo();
            x.undo();
        }).dueRefused("undo() behind all", x -> x.undo(), -3, Twins.NO);
        AloneRooms x = Check.house("rooms 1;person 0;");
        x.beat(5);
        check.due("undo() behind a beat that was refused", x.undo(), -3);
    }

    private static void promise14TheStanding() {
        check.sentence(14, "The STANDING.");
        AloneRooms x = new AloneRooms();
        check.due("standing() of nobody", x.standing(), 0);
        x.door(4, 0, true);
        for (int p = 0; p < 4; p++) {
            x.person(4);
        }
        check.due("standing(): the highest", x.standing(), 2340);
        x.beat(0);
        check.due("standing(): the lowest", x.standing(), 0);
        x.beat(4 * 512);
        check.due("standing()", x.standing(), 2048);
    }

    private static void promise15PenniesOfASill() {
        check.sentence(15, "PENNIES of a SILL.");
        AloneRooms x = Check.house("rooms 5;sill 0 999;sill 4 1;person 0;law 1;");
        check.dueSills(x, 999, 0, 0, 0, 1);
        x.beat(0);
        check.dueSills(x, 1000, 0, 0, 0, 1);
    }

    private static void promise15Bad() {
        check.sentence(15, "BAD.");
        for (int r : new int[] {5, -1, 8, LOWEST, HIGHEST}) {
            bad("sill(" + r + ")", x -> x.sill(r), -2);
        }
        Twins.some(check).dueRefused("sill(4)", x -> x.sill(4), -2, Twins.BAD);
    }

    private static void promise16APurse() {
        check.sentence(16, "A PURSE.");
        AloneRooms x = Check.house("rooms 2;door 0 1;sill 1 999;person 0;person 1;person 0;person 0;");
        check.duePurses(x, 0, 0, 0, 0);
        x.beat(Check.at(0, 1, 0, 1));
        check.duePurses(x, 0, 0, 0, 999);
        x.beat(Check.at(0, 0, 0, 1));
        check.duePurses(x, 0, 0, 0, 998);
    }

    private static void promise16Bad() {
        check.sentence(16, "BAD: -100000.");
        for (int p : new int[] {4, -1, LOWEST, HIGHEST}) {
            bad("purse(" + p + ")", x -> x.purse(p), -100000);
        }
        Twins.fresh(check).dueRefused("purse(0)", x -> x.purse(0), -100000, Twins.BAD);
        Twins.some(check).dueRefused("purse(3)", x -> x.purse(3), -100000, Twins.BAD);
    }

    private static void promise17WhetherAlone() {
        check.sentence(17, "Whether one is ALONE: 1, 0.");
        AloneRooms x = Check.house("rooms 5;cat 4;person 0;person 4;person 2;person 2;");
        int[] alone = {1, 0, 0, 0};
        for (int p = 0; p < 4; p++) {
            check.due("alone(" + p + ")", x.alone(p), alone[p]);
        }
        x.door(2, 3, true);
        x.beat(Check.at(0, 4, 2, 3));
        check.due("alone(2)", x.alone(2), 1);
        check.due("alone(3)", x.alone(3), 1);
    }

    private static void promise17Bad() {
        check.sentence(17, "BAD.");
        for (int p : new int[] {4, -1, LOWEST, HIGHEST}) {
            bad("alone(" + p + ")", x -> x.alone(p), -2);
        }
        Twins.fresh(check).dueRefused("alone(0)", x -> x.alone(0), -2, Twins.BAD);
        Twins.some(check).dueRefused("alone(3)", x -> x.alone(3), -2, Twins.BAD);
    }
}
