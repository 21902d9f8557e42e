/** Promises 32 to 36: image, from, status, count, digest. */
public final class KeepTest {
    private static final Check check = new Check("KeepTest");

    public static void main(String[] args) {
        promise32Image();
        promise33From();
        promise33FromKeepsWhatMayBeUndone();
        promise34Status();
        promise35Count();
        promise36Digest();
        check.end();
    }

    private static void promise32Image() {
        AloneRooms x = new AloneRooms();
        check.due("image(2)", x.image(2), AloneRooms.BAD);
        check.due("image(-1)", x.image(-1), AloneRooms.BAD);
        check.due("from(0)", x.from(0), AloneRooms.NO);
        check.due("image(0)", x.image(0), 1);
        check.due("from(1)", x.from(1), AloneRooms.NO);
        check.due("image(1)", x.image(1), 1);
        check.due("from(1)", x.from(1), 1);
        x.person(3);
        check.due("image(0) again", x.image(0), 1);
        x.rooms(1);
        check.due("from(0)", x.from(0), 1);
        check.due("standing()", x.standing(), 3);
        check.dueStatus(x, 2, 2, 0);
    }

    private static void promise33From() {
        AloneRooms x = Check.house("rooms 4;door 0 1;cat 2;sill 1 9;person 0;person 1;wish 0 1 1;law 3;");
        x.spy(0, 7);
        x.plan(0);
        x.beat(Check.at(0, 0));
        long first = x.digest();
        x.image(0);
        x.door(1, 2, true);
        x.cat(0, true);
        x.lay(3, 5);
        x.person(3);
        x.law(1);
        x.wish(0, 1, 3);
        x.spy(0, 8);
        x.plan(1);
        x.beat(Check.at(0, 1, 3));
        long second = x.digest();
        x.image(1);
        x.rooms(2);
        check.due("from(0)", x.from(0), 1);
        check.due("digest()", x.digest(), first);
        check.due("from(1)", x.from(1), 1);
        check.due("digest()", x.digest(), second);
        x.rooms(5);
        check.due("from(1) once more", x.from(1), 1);
        check.due("digest()", x.digest(), second);
        Check.type(x, "abc");
        x.from(0);
        check.due("count(7): the text stays", x.count(7), 3);
        check.due("from(2)", x.from(2), AloneRooms.BAD);
        check.due("from(-1)", x.from(-1), AloneRooms.BAD);
        check.dueStatus(x, 2, 0, 0);
        x.from(1);
        check.dueStatus(x, 2, 0, 0);
    }

    private static void promise33FromKeepsWhatMayBeUndone() {
        AloneRooms x = Check.house("rooms 3;door 0 1;door 1 2;person 0;law 1;");
        x.beat(1);
        x.beat(2);
        x.image(0);
        x.undo();
        x.undo();
        x.beat(0);
        check.due("from(0)", x.from(0), 1);
        check.due("count(6)", x.count(6), 2);
        x.beat(1);
        check.due("undo()", x.undo(), 1);
        check.due("undo()", x.undo(), 1);
        check.due("standing()", x.standing(), 1);
        check.dueSills(x, 0, 1, 0);
        check.due("undo()", x.undo(), 1);
        check.due("purse(0)", x.purse(0), 0);
        check.due("undo()", x.undo(), AloneRooms.NO);
        x.from(0);
        check.due("the image is not touched", x.count(6), 2);
        check.duePurses(x, -2);
        x.undo();
        x.undo();
        x.lay(1, 77);
        x.beat(1);
        x.beat(0);
        x.from(0);
        check.due("undo() of the image's own beats", x.undo(), 1);
        check.due("standing()", x.standing(), 1);
        check.due("undo()", x.undo(), 1);
        check.dueSills(x, 0, 0, 0);
        x.from(0);
        x.scrap();
        x.plan(1);
        x.plan(2);
        long planned = x.digest();
        x.image(1);
        x.scrap();
        x.plan(0);
        x.plan(0);
        x.from(1);
        check.due("the plan of the image", x.digest(), planned);
    }

    private static void promise34Status() {
        AloneRooms x = new AloneRooms();
        check.dueStatus(x, 0, 0, 0);
        check.due("status(3)", x.status(3), -1);
        check.due("status(-1)", x.status(-1), -1);
        check.dueStatus(x, 2, 0, 0);
        x.rooms(9);
        x.undo();
        x.undo();
        x.undo();
        for (int i = 0; i < 9; i++) {
            x.plan(0);
        }
        check.dueStatus(x, 3, 3, 1);
        x.read();
        x.judge();
        x.picks(0, 0, 4);
        x.fewest(0);
        check.dueStatus(x, 3, 3, 1);
        x.rooms(3);
        check.dueStatus(x, 3, 3, 1);
    }

    private static void promise35Count() {
        AloneRooms x = Check.house("rooms 4;door 0 1;door 0 2;door 2 3;cat 0;cat 3;person 0;person 1;person 2;");
        Check.type(x, "abcdefghij");
        x.plan(0);
        x.beat(x.standing());
        x.beat(x.standing());
        x.undo();
        x.beat(x.standing());
        x.beat(x.standing());
        int[] counts = {4, 3, 3, 2, 3, 1, 3, 10};
        for (int what = 0; what < 8; what++) {
            check.due("count(" + what + ")", x.count(what), counts[what]);
        }
        check.due("count(8)", x.count(8), AloneRooms.BAD);
        check.due("count(-1)", x.count(-1), AloneRooms.BAD);
        check.dueStatus(x, 2, 0, 0);
    }

    private static void promise36Digest() {
        AloneRooms x = Check.house("rooms 3;door 0 2;cat 1;sill 1 30;person 2;person 1;wish 0 4 2;wish 1 1 0;law 2;");
        Check.type(x, "ab");
        x.spy(2, 1234);
        x.plan(Check.at(0, 1));
        x.plan(Check.at(2, 0));
        x.beat(Check.at(0, 1));
        x.rooms(9);
        check.due("digest()", x.digest(), Check.digestOf(3, 2, 1, 1, 1, 2, 1, 2, 2, Check.at(0, 1),
                -1, -1, -1, -1, 2, 0, 0, -1, -1, -1,
                1, 0, 4, 0, 30, 1, 0, 0, 0, 0, 1, 1234,
                Check.at(0, 1), Check.at(2, 0)));
        check.dueStatus(x, 1, 0, 0);
    }
}
