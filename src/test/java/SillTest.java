/** Promises 27 to 31: spy, fits, was, rent, drawn. */
public final class SillTest {
    private static final Check check = new Check("SillTest");

    public static void main(String[] args) {
        promise27Spy();
        promise28Fits();
        promise28FitsByLaw();
        promise29Was();
        promise30Rent();
        promise31Drawn();
        promise31DrawnByHand();
        promise31DrawnByRows();
        check.end();
    }

    private static void promise27Spy() {
        AloneRooms x = new AloneRooms();
        check.due("spy(4, 1999)", x.spy(4, 1999), 0);
        check.due("spy(4, 2000)", x.spy(4, 2000), AloneRooms.BAD);
        check.due("spy(4, -1)", x.spy(4, -1), AloneRooms.BAD);
        check.due("spy(5, 0)", x.spy(5, 0), AloneRooms.BAD);
        check.due("spy(-1, 0)", x.spy(-1, 0), AloneRooms.BAD);
        check.due("spy(4, 0)", x.spy(4, 0), 1999);
        check.due("sill(4)", x.sill(4), 0);
        check.dueStatus(x, 4, 0, 0);
    }

    private static void promise28Fits() {
        AloneRooms x = new AloneRooms();
        check.due("fits() of nobody", x.fits(), 1);
        x.spy(2, 1);
        check.due("fits() of nobody", x.fits(), 0);

        AloneRooms y = Check.house("rooms 3;door 0 1;door 1 2;person 0;person 0;");
        check.due("fits(): nothing was laid", y.fits(), 2);
        y.spy(0, 1);
        check.due("fits()", y.fits(), 0);
        y.spy(1, 1);
        check.due("fits()", y.fits(), 2);
        y.lay(1, 5);
        check.due("fits()", y.fits(), 0);
        y.spy(1, 6);
        check.due("fits()", y.fits(), 2);
        y.spy(0, 0);
        y.spy(1, 0);
        check.due("fits(): gathered", y.fits(), 1);
        check.due("standing()", y.standing(), 0);
        check.dueSills(y, 0, 5, 0);
        check.duePurses(y, 0, 0);
        check.due("count(4)", y.count(4), 0);
        check.due("count(6)", y.count(6), 0);
        AloneRooms four = Check.house("rooms 5;door 0 1;door 1 2;door 2 3;door 3 4;person 0;person 1;person 2;person 3;");
        four.spy(0, 1);
        four.spy(4, 1);
        check.due("fits() of four: to 1, 0, 1, 4", four.fits(), 1);
        check.due("was(1, 0)", four.was(1, 0), 1);
        check.due("was(3, 4)", four.was(3, 4), 1);
        check.due("was(0, 1)", four.was(0, 1), 0);
    }

    private static void promise28FitsByLaw() {
        AloneRooms x = Check.house("rooms 2;door 0 1;person 0;");
        int[] stays = {1, 0, 1, 0, 1};
        for (int law = 0; law < 5; law++) {
            x.law(law);
            check.due("fits() by " + law, x.fits(), stays[law]);
        }
        x.law(3);
        for (int i = 0; i < 9; i++) {
            x.beat(0);
        }
        x.lay(0, 0);
        check.due("fits() in an even beat", x.fits(), 2);
        check.due("count(6)", x.count(6), 8);
    }

    private static void promise29Was() {
        AloneRooms x = Check.house("rooms 3;door 0 1;door 1 2;person 0;person 0;person 2;");
        x.spy(0, 1);
        check.due("fits()", x.fits(), 2);
        check.due("was(0, 0)", x.was(0, 0), 1);
        check.due("was(1, 0)", x.was(1, 0), 1);
        check.due("was(2, 1)", x.was(2, 1), 0);
        check.due("was(0, 1)", x.was(0, 1), 0);
        check.due("was(2, 2)", x.was(2, 2), 0);
        x.spy(1, 1);
        check.due("fits()", x.fits(), 2);
        check.due("was(0, 1)", x.was(0, 1), 1);
        check.due("was(2, 2)", x.was(2, 2), 2);
        x.cat(2, true);
        check.due("was(2, 2) with a cat", x.was(2, 2), 0);
        check.due("was(3, 0)", x.was(3, 0), AloneRooms.BAD);
        check.due("was(-1, 0)", x.was(-1, 0), AloneRooms.BAD);
        check.due("was(0, 3)", x.was(0, 3), AloneRooms.BAD);
        check.due("was(0, -1)", x.was(0, -1), AloneRooms.BAD);
        check.dueStatus(x, 4, 0, 0);
    }

    private static void promise30Rent() {
        AloneRooms x = new AloneRooms();
        int[] not = {1, 99, 1, 50, 0};
        int[] was = {0, 99, 0, 50, 0};
        for (int law = 0; law < 5; law++) {
            x.law(law);
            check.due("rent(99, 0) by " + law, x.rent(99, 0), not[law]);
            check.due("rent(99, 1) by " + law, x.rent(99, 1), was[law]);
            check.due("rent(0, 0) by " + law, x.rent(0, 0), 0);
        }
        x.law(3);
        check.due("rent(1, 0)", x.rent(1, 0), 1);
        x.beat(0);
        check.due("rent(1, 0) in an even beat", x.rent(1, 0), 0);
        check.due("rent(99, 0)", x.rent(99, 0), 49);
        check.due("rent(-1, 0)", x.rent(-1, 0), AloneRooms.BAD);
        check.due("rent(100, 0)", x.rent(100, 0), AloneRooms.BAD);
        check.due("rent(0, -1)", x.rent(0, -1), AloneRooms.BAD);
        check.due("rent(0, 2)", x.rent(0, 2), AloneRooms.BAD);
        check.dueStatus(x, 4, 0, 0);
    }

    private static void promise31Drawn() {
        AloneRooms x = Check.house("rooms 5;person 0;person 2;person 2;law 1;");
        check.due("drawn(0, 0, 0)", x.drawn(0, 0, 0), 0);
        check.due("drawn(0, 0, 1)", x.drawn(0, 0, 1), 2);
        check.due("drawn(5, 20, 0): nobody can go", x.drawn(5, 20, 0), 20);
        check.due("drawn(999999, 20, 1)", x.drawn(999999, 20, 1), 2);
        check.due("drawn(-1, 0, 0)", x.drawn(-1, 0, 0), AloneRooms.BAD);
        check.due("drawn(1000000, 0, 0)", x.drawn(1000000, 0, 0), AloneRooms.BAD);
        check.due("drawn(0, -1, 0)", x.drawn(0, -1, 0), AloneRooms.BAD);
        check.due("drawn(0, 21, 0)", x.drawn(0, 21, 0), AloneRooms.BAD);
        check.due("drawn(0, 0, -1)", x.drawn(0, 0, -1), AloneRooms.BAD);
        check.due("drawn(0, 0, 2)", x.drawn(0, 0, 2), AloneRooms.BAD);
        check.dueStatus(x, 6, 0, 0);
        check.due("drawn of nobody", new AloneRooms().drawn(3, 20, 1), 0);
    }

    /**
     * SEED 0: X is 12345 (r 0), then 1406932606 (21468), 654583775 (9988), 1449466924 (22117);
     * with two rooms each the rests are 0, 0, 0, 1; with one door of three rooms' middle 0, 0, 1, 1.
     */
    private static void promise31DrawnByHand() {
        AloneRooms x = Check.house("rooms 2;door 0 1;person 1;person 1;law 1;");
        check.due("drawn(0, 1, 0): both to room 0", x.drawn(0, 1, 0), 0);
        check.due("drawn(0, 1, 1)", x.drawn(0, 1, 1), 1);
        check.due("drawn(0, 2, 0): to 0 and 1", x.drawn(0, 2, 0), 2);
        check.due("drawn(0, 2, 1)", x.drawn(0, 2, 1), 2);
        x.law(3);
        check.due("drawn(0, 2, 0) in an even beat", x.drawn(0, 2, 0), 0);
        x.beat(x.standing());
        check.due("drawn(0, 2, 0) in an odd beat", x.drawn(0, 2, 0), 2);
        check.due("standing()", x.standing(), Check.at(1, 1));
        check.due("count(4)", x.count(4), 1);
        AloneRooms cat = Check.house("rooms 2;door 0 1;cat 0;person 0;law 1;");
        check.due("drawn(0, 3, 0): with the cat", cat.drawn(0, 3, 0), 0);
        check.due("drawn(0, 4, 0): to room 1", cat.drawn(0, 4, 0), 1);
        AloneRooms four = Check.house("rooms 2;door 0 1;person 1;person 1;person 1;person 1;law 1;");
        check.due("drawn(0, 1, 0): to 0, 0, 0, 1", four.drawn(0, 1, 0), 1);
        check.due("drawn(0, 1, 1)", four.drawn(0, 1, 1), 2);
        AloneRooms three = Check.house("rooms 3;door 0 1;door 1 2;person 1;law 1;");
        // 12345 / 65536 is 0: room 0; 21468 by 2 leaves 0: room 0; 9988 by 2 leaves 0; 22117 by 2 leaves 1: room 1
        check.due("drawn(0, 4, 0)", three.drawn(0, 4, 0), 4);
        check.due("drawn(0, 4, 1)", three.drawn(0, 4, 1), 1);
    }

    /** Rows that were reckoned apart, for 0 to 20 beats. */
    private static void promise31DrawnByRows() {
        AloneRooms one = Check.house("rooms 4;door 0 1;door 1 2;door 2 3;cat 0;cat 2;person 1;law 1;");
        dueRow(one, 0, 0, 0, 0, 0, 0, 1, 1, 2, 3, 4, 4, 4, 5, 6, 7, 7, 8, 8, 8, 9, 9, 10);
        dueRow(one, 7, 0, 0, 1, 1, 2, 2, 3, 4, 4, 5, 6, 7, 8, 9, 9, 10, 11, 11, 11, 12, 12, 13);
        dueRow(one, 999999, 0, 0, 1, 1, 1, 1, 1, 2, 3, 4, 4, 5, 6, 7, 8, 9, 9, 9, 10, 10, 11, 11);
        AloneRooms two = Check.house("rooms 4;door 0 1;door 1 2;door 2 3;person 0;person 3;law 1;");
        dueRow(two, 31, 0, 0, 2, 4, 4, 4, 6, 8, 10, 10, 12, 12, 12, 14, 16, 18, 20, 20, 20, 22, 24, 26);
        dueRow(two, 31, 1, 2, 2, 2, 1, 1, 2, 2, 2, 1, 2, 1, 1, 2, 2, 2, 2, 1, 1, 2, 2, 2);
        dueRow(two, 500000, 1, 2, 2, 2, 2, 2, 2, 2, 1, 2, 2, 2, 2, 2, 2, 2, 1, 1, 2, 1, 1, 2);
    }

    private static void dueRow(AloneRooms x, int seed, int what, int... row) {
        for (int y = 0; y < row.length; y++) {
            check.due("drawn(" + seed + ", " + y + ", " + what + ")", x.drawn(seed, y, what), row[y]);
        }
    }
}
