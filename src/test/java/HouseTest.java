/** Promises 1 to 8: a new object, rooms, door, cat, lay, person, law, wish. */
public final class HouseTest {
    private static final Check check = new Check("HouseTest");

    public static void main(String[] args) {
        promise1NewObject();
        promise2Rooms();
        promise2RoomsEmptiesAll();
        promise3Door();
        promise4Cat();
        promise5Lay();
        promise6Person();
        promise7Law();
        promise8Wish();
        check.end();
    }

    private static void promise1NewObject() {
        AloneRooms x = new AloneRooms();
        check.due("count(0)", x.count(0), 5);
        for (int what = 1; what < 8; what++) {
            check.due("count(" + what + ")", x.count(what), 0);
        }
        check.due("standing()", x.standing(), 0);
        check.dueSills(x, 0, 0, 0, 0, 0);
        check.due("law(0)", x.law(0), 0);
        check.due("from(0)", x.from(0), AloneRooms.NO);
        check.due("from(1)", x.from(1), AloneRooms.NO);
        check.dueStatus(x, 0, 2, 0);
        long[] v = new long[8 + 2 + 20];
        v[0] = 5;
        check.due("digest()", x.digest(), Check.digestOf(v));
    }

    private static void promise2Rooms() {
        AloneRooms x = new AloneRooms();
        check.due("rooms(1)", x.rooms(1), 5);
        check.due("rooms(5)", x.rooms(5), 1);
        check.due("rooms(3)", x.rooms(3), 5);
        for (int n : new int[] {0, 6, -1, Integer.MIN_VALUE, Integer.MAX_VALUE}) {
            check.due("rooms(" + n + ")", x.rooms(n), AloneRooms.BAD);
        }
        check.due("count(0)", x.count(0), 3);
        check.due("sill(3)", x.sill(3), AloneRooms.BAD);
        check.dueStatus(x, 6, 0, 0);
    }

    private static void promise2RoomsEmptiesAll() {
        AloneRooms x = Check.house("rooms 4;door 0 1;cat 2;sill 1 9;person 0;person 1;wish 0 1 1;law 3;");
        Check.type(x, "abc");
        x.spy(0, 7);
        x.plan(0);
        x.beat(Check.at(1, 0));
        check.duePurses(x, -1, -1);
        x.image(1);
        x.rooms(7);
        check.due("rooms(4)", x.rooms(4), 4);
        long[] v = new long[8 + 2 + 16];
        v[0] = 4;
        v[7] = 3;
        check.due("digest() behind rooms", x.digest(), Check.digestOf(v));
        check.dueStatus(x, 1, 0, 0);
        check.due("person(0)", x.person(0), 0);
        check.due("purse(0) of a new one", x.purse(0), 0);
        check.due("wish that was", x.wish(0, 1, AloneRooms.NONE), AloneRooms.NONE);
        check.due("undo()", x.undo(), AloneRooms.NO);
        check.due("from(1)", x.from(1), 1);
        check.due("count(1) of the image", x.count(1), 2);
    }

    private static void promise3Door() {
        AloneRooms x = new AloneRooms();
        check.due("door(0, 4, true)", x.door(0, 4, true), 1);
        check.due("door(4, 0, true)", x.door(4, 0, true), AloneRooms.NO);
        check.due("door(2, 1, false)", x.door(2, 1, false), AloneRooms.NO);
        check.due("door(1, 3, true)", x.door(1, 3, true), 1);
        check.due("count(2)", x.count(2), 2);
        check.due("door(4, 0, false)", x.door(4, 0, false), 1);
        check.due("door(0, 4, false)", x.door(0, 4, false), AloneRooms.NO);
        check.due("count(2)", x.count(2), 1);
        check.due("door(2, 2, true)", x.door(2, 2, true), AloneRooms.BAD);
        check.due("door(2, 2, false)", x.door(2, 2, false), AloneRooms.BAD);
        check.due("door(-1, 2, true)", x.door(-1, 2, true), AloneRooms.BAD);
        check.due("door(2, -1, true)", x.door(2, -1, true), AloneRooms.BAD);
        check.due("door(5, 2, true)", x.door(5, 2, true), AloneRooms.BAD);
        check.due("door(2, 5, false)", x.door(2, 5, false), AloneRooms.BAD);
        check.dueStatus(x, 6, 3, 0);
        x.person(3);
        check.due("beat(1) through the door", x.beat(1), 1);
        check.due("beat(3) back", x.beat(3), 1);
        check.due("beat(0) without one", x.beat(0), AloneRooms.NO);
    }

    private static void promise4Cat() {
        AloneRooms x = new AloneRooms();
        x.person(4);
        check.due("alone(0)", x.alone(0), 1);
        check.due("cat(4, true)", x.cat(4, true), 1);
        check.due("alone(0)", x.alone(0), 0);
        check.due("cat(4, true)", x.cat(4, true), AloneRooms.NO);
        check.due("cat(0, true)", x.cat(0, true), 1);
        check.due("count(3)", x.count(3), 2);
        check.due("cat(4, false)", x.cat(4, false), 1);
        check.due("cat(4, false)", x.cat(4, false), AloneRooms.NO);
        check.due("alone(0)", x.alone(0), 1);
        check.due("count(3)", x.count(3), 1);
        check.due("cat(5, true)", x.cat(5, true), AloneRooms.BAD);
        check.due("cat(-1, false)", x.cat(-1, false), AloneRooms.BAD);
        check.dueStatus(x, 2, 2, 0);
    }

    private static void promise5Lay() {
        AloneRooms x = new AloneRooms();
        check.due("lay(4, 999)", x.lay(4, 999), 0);
        check.due("lay(4, 1000)", x.lay(4, 1000), AloneRooms.BAD);
        check.due("lay(4, -1)", x.lay(4, -1), AloneRooms.BAD);
        check.due("lay(5, 0)", x.lay(5, 0), AloneRooms.BAD);
        check.due("lay(-1, 0)", x.lay(-1, 0), AloneRooms.BAD);
        check.due("sill(4)", x.sill(4), 999);
        x.person(4);
        x.law(1);
        x.beat(4);
        check.due("lay(4, 0) of more than 999", x.lay(4, 0), 1000);
        check.due("sill(4)", x.sill(4), 0);
        check.dueStatus(x, 4, 0, 0);
    }

    private static void promise6Person() {
        AloneRooms x = new AloneRooms();
        check.due("person(5)", x.person(5), AloneRooms.BAD);
        check.due("person(-1)", x.person(-1), AloneRooms.BAD);
        for (int p = 0; p < 4; p++) {
            check.due("person(" + (4 - p) + ")", x.person(4 - p), p);
            check.due("standing()", x.standing() >> 3 * p, 4 - p);
            check.due("purse(" + p + ")", x.purse(p), 0);
        }
        check.due("person(0)", x.person(0), AloneRooms.FULL);
        check.due("person(5): BAD ahead of FULL", x.person(5), AloneRooms.BAD);
        check.due("count(1)", x.count(1), 4);
        check.dueStatus(x, 3, 0, 1);

        x.rooms(2);
        x.beat(0);
        x.beat(0);
        check.due("count(6)", x.count(6), 2);
        check.due("person(1)", x.person(1), 0);
        check.due("count(6)", x.count(6), 0);
        check.due("count(4)", x.count(4), 2);
        check.due("undo()", x.undo(), AloneRooms.NO);
    }

    private static void promise7Law() {
        AloneRooms x = new AloneRooms();
        check.due("law(4)", x.law(4), 0);
        check.due("law(5)", x.law(5), AloneRooms.BAD);
        check.due("law(-1)", x.law(-1), AloneRooms.BAD);
        check.due("law(2)", x.law(2), 4);
        check.due("law(0)", x.law(0), 2);
        check.dueStatus(x, 2, 0, 0);
    }

    private static void promise8Wish() {
        AloneRooms x = new AloneRooms();
        check.due("wish of nobody", x.wish(0, 1, 0), -10);
        x.person(0);
        check.due("wish(0, 1, 4)", x.wish(0, 1, 4), AloneRooms.NONE);
        check.due("wish(0, 4, 2)", x.wish(0, 4, 2), AloneRooms.NONE);
        check.due("wish(0, 1, 3)", x.wish(0, 1, 3), 4);
        check.due("wish(0, 1, NONE)", x.wish(0, 1, AloneRooms.NONE), 3);
        check.due("wish(0, 1, NONE)", x.wish(0, 1, AloneRooms.NONE), AloneRooms.NONE);
        check.due("wish(0, 4, 2)", x.wish(0, 4, 2), 2);
        check.due("wish(1, 1, 0)", x.wish(1, 1, 0), -10);
        check.due("wish(-1, 1, 0)", x.wish(-1, 1, 0), -10);
        check.due("wish(0, 0, 0)", x.wish(0, 0, 0), -10);
        check.due("wish(0, 5, 0)", x.wish(0, 5, 0), -10);
        check.due("wish(0, 1, 5)", x.wish(0, 1, 5), -10);
        check.due("wish(0, 1, -2)", x.wish(0, 1, -2), -10);
        check.dueStatus(x, 7, 0, 0);
        x.beat(0);
        check.due("a wish stays behind a beat", x.wish(0, 4, 2), 2);
        promise8WishesOfAll();
    }

    private static void promise8WishesOfAll() {
        AloneRooms x = Check.house("rooms 5;person 0;person 0;person 0;person 0;");
        for (int p = 0; p < 4; p++) {
            for (int h = 1; h <= 4; h++) {
                check.due("wish(" + p + ", " + h + ", ..)", x.wish(p, h, (3 * p + h) % 5), AloneRooms.NONE);
            }
        }
        for (int p = 0; p < 4; p++) {
            for (int h = 1; h <= 4; h++) {
                check.due("wish(" + p + ", " + h + ", NONE)", x.wish(p, h, AloneRooms.NONE), (3 * p + h) % 5);
            }
        }
    }
}
