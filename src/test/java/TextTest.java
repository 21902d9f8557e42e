/** Promises 9 to 11: type, clear, read. */
public final class TextTest {
    private static final Check check = new Check("TextTest");

    public static void main(String[] args) {
        promise9Type();
        promise10Clear();
        promise11ReadTellsAll();
        promise11ReadTakesThePlaceOfAll();
        promise11Tokens();
        promise11Faults();
        promise11EndsTooEarly();
        promise11AFaultChangesNothing();
        check.end();
    }

    private static void promise9Type() {
        AloneRooms x = new AloneRooms();
        check.due("type(0, 0)", x.type(0, 0), AloneRooms.BAD);
        check.due("type(0, 9)", x.type(0, 9), AloneRooms.BAD);
        check.due("type(0, -1)", x.type(0, -1), AloneRooms.BAD);
        for (int i = 1; i <= 24; i++) {
            check.due("type(-1, 8)", x.type(-1L, 8), 8 * i);
        }
        check.due("type(7, 7)", x.type(7, 7), 199);
        check.due("type(7, 2)", x.type(7, 2), AloneRooms.FULL);
        check.due("count(7)", x.count(7), 199);
        check.due("type(7, 1)", x.type(7, 1), 200);
        check.due("type(7, 1)", x.type(7, 1), AloneRooms.FULL);
        check.due("type(7, 9): BAD ahead of FULL", x.type(7, 9), AloneRooms.BAD);
        check.due("count(7)", x.count(7), 200);
        check.dueStatus(x, 4, 0, 2);

        x.clear();
        x.type(0x123456726f6f6dL, 4);
        x.type(0x7320333bL, 4);
        check.due("read(), higher bytes left away", x.read(), 0);
        check.due("count(0)", x.count(0), 3);
    }

    private static void promise10Clear() {
        AloneRooms x = new AloneRooms();
        check.due("clear()", x.clear(), 0);
        Check.type(x, "rooms 2;cat");
        check.due("clear()", x.clear(), 11);
        check.due("clear()", x.clear(), 0);
        check.due("count(7)", x.count(7), 0);
        Check.type(x, "rooms 4;");
        check.due("read()", x.read(), 0);
        check.due("count(0)", x.count(0), 4);
        check.due("count(7): the text stays", x.count(7), 8);
    }

    private static void promise11ReadTellsAll() {
        AloneRooms x = Check.house("rooms 3;door 0 1;door 2 1;cat 2;sill 0 999;person 2;person 1;"
                + "wish 1 4 0;wish 0 2 2;law 4;");
        check.due("digest()", x.digest(), Check.digestOf(3, 2, 2, 1, 0, 0, 0, 0, 4, Check.at(2, 1),
                0, -1, 2, -1, -1, 0, -1, -1, -1, 0,
                999, 0, 2, 0, 0, 0, 5, 0, 0, 1, 2, 0));
        AloneRooms low = Check.house("rooms 2;sill 1 7;sill 1 0;law 3;law 0;");
        check.due("sill(1) told 0", low.sill(1), 0);
        check.due("law told 0", low.law(1), 0);
        AloneRooms twice = Check.house("rooms 2;door 0 1;door 1 0;cat 1;cat 1;sill 0 5;sill 0 6;"
                + "person 0;wish 0 1 0;wish 0 1 1;law 1;law 2;");
        check.due("digest(), told twice", twice.digest(), Check.digestOf(2, 1, 1, 1, 0, 0, 0, 0, 2, 0,
                0, 1, -1, -1, -1, 6, 0, 2, 0, 0, 1, 1, 0));
    }

    private static void promise11ReadTakesThePlaceOfAll() {
        AloneRooms x = Check.house("rooms 4;door 0 1;cat 2;sill 1 9;person 0;person 1;wish 0 1 1;law 3;");
        x.spy(0, 7);
        x.plan(0);
        x.beat(Check.at(0, 0));
        x.image(0);
        x.door(0, 0, true);
        Check.type(x, "rooms 5;person 4;");
        check.due("read()", x.read(), 1);
        long[] v = new long[8 + 2 + 5 + 20];
        v[0] = 5;
        v[1] = 1;
        v[7] = 17;
        v[9] = 4;
        v[11] = v[12] = v[13] = v[14] = -1;
        check.due("digest() behind read", x.digest(), Check.digestOf(v));
        check.dueStatus(x, 1, 0, 0);
        check.due("from(0)", x.from(0), 1);
        check.due("count(4) of the image", x.count(4), 1);
        check.due("undo() of the image", x.undo(), 1);
    }

    private static void promise11Tokens() {
        dueRead("rooms 1;", 0);
        dueRead("   rooms   5   ;   ", 0);
        dueRead("rooms5;person4;person 0 ;door0 1;", 2);
        dueRead("rooms 005;sill 04 007;person 000;", 1);
        dueRead("rooms 5;person 0;person 1;person 2;person 3;", 4);
        AloneRooms x = Check.house("rooms 05;sill 004 099;");
        check.due("sill(4)", x.sill(4), 99);
        StringBuilder longest = new StringBuilder("rooms 2;person 1;");
        while (longest.length() < 200) {
            longest.append(' ');
        }
        dueRead(longest.toString(), 1);
    }

    private static void promise11Faults() {
        dueFault(";rooms 3;", 0);
        dueFault(" 3", 1);
        dueFault("door 0 1;rooms 3;", 0);
        dueFault("  room 3;", 2);
        dueFault("roomss 3;", 0);
        dueFault("Rooms 3;", 0);
        dueFault("zooms 3;", 0);
        dueFault("rooms 3;rat 1;", 8);
        dueFault("rooms 3;lay 1;", 8);
        dueFault("rooms 3;law 10;", 12);
        dueFault("rooms 0;", 6);
        dueFault("rooms 6;", 6);
        dueFault("rooms ;", 6);
        dueFault("rooms rooms", 6);
        dueFault("rooms 3 3;", 8);
        dueFault("rooms 3 door", 8);
        dueFault("rooms 0003;", 6);
        dueFault("rooms 3;;", 8);
        dueFault("rooms 3;3;", 8);
        dueFault("rooms 3;rooms 3;", 8);
        dueFault("rooms 3; rooms", 9);
        dueFault("rooms 3;doors 0 1;", 8);
        dueFault("rooms 3;doo", 8);
        dueFault("rooms 3;door 0 0;", 15);
        dueFault("rooms 3;door 3 0;", 13);
        dueFault("rooms 3;door 0 3;", 15);
        dueFault("rooms 3;door 01;", 15);
        dueFault("rooms 3;door 0,1;", 14);
        dueFault("rooms 3;door 0 -1;", 15);
        dueFault("rooms 3;door 0\t1;", 14);
        dueFault("rooms 3;door 3 9999;", 13);
        dueFault("rooms 3;cat 3;", 12);
        dueFault("rooms 3;cat cat", 12);
        dueFault("rooms 3;cat 0001;", 12);
        dueFault("rooms 3;sill 3 0;", 13);
        dueFault("rooms 3;sill 0 1000;", 15);
        dueFault("rooms 3;sill 0 99999;", 15);
        dueFault("rooms 3;sill 0 999 9;", 19);
        dueFault("rooms 3;person 3;", 15);
        dueFault("rooms 3;person 0 person", 17);
        dueFault("rooms 3;person 0;person 0;person 0;person 0;person 0;", 8 + 36);
        dueFault("rooms 3;person 0;person 0;person 0;person 0;person", 8 + 36);
        dueFault("rooms 3;wish 0 1 0;", 13);
        dueFault("rooms 3;person 0;wish 1 1 0;", 22);
        dueFault("rooms 3;person 0;wish 0 0 0;", 24);
        dueFault("rooms 3;person 0;wish 0 5 0;", 24);
        dueFault("rooms 3;person 0;wish 0 1 3;", 26);
        dueFault("rooms 3;person 0;wish 0 1;", 25);
        dueFault("rooms 3;law 5;", 12);
        dueFault("rooms 3;law 4" + (char) 233 + ";", 13);
        dueFault("rooms 3;" + (char) 0, 8);
        dueFault("rooms 3;cat 1;" + (char) 255, 14);
    }

    private static void promise11EndsTooEarly() {
        dueFault("", 0);
        dueFault("    ", 4);
        dueFault("rooms", 5);
        dueFault("rooms  ", 7);
        dueFault("rooms 3", 7);
        dueFault("rooms 3  ", 9);
        dueFault("rooms 3;door", 12);
        dueFault("rooms 3;door 0", 14);
        dueFault("rooms 3;door 0 1", 16);
        dueFault("rooms 3;sill 0 999", 18);
        dueFault("rooms 3;person 0;wish 0 1 ", 26);
        dueFault("rooms 3;person 0;person 0;person 0;person ", 42);
        String items = "rooms 2;" + "sill 0 1;cat 1 ;".repeat(11);
        dueFault(items + " ".repeat(10) + "sill 1", 200);
        dueFault(items + " ".repeat(13) + "cat", 200);
        AloneRooms x = new AloneRooms();
        Check.type(x, "rooms 12");
        x.clear();
        Check.type(x, "rooms 1");
        check.due("read(): what was cleared is gone", x.read(), -10 - 7);
    }

    private static void promise11AFaultChangesNothing() {
        AloneRooms x = Check.house("rooms 4;door 0 1;cat 2;sill 1 9;person 0;person 1;wish 0 1 1;law 3;");
        x.spy(0, 7);
        x.plan(0);
        x.beat(Check.at(0, 0));
        Check.type(x, "rooms 2;person 0;law 1;law 7;");
        long before = x.digest();
        check.due("read()", x.read(), -10 - 27);
        check.due("digest() behind a fault", x.digest(), before);
        check.dueStatus(x, 0, 0, 0);
    }

    private static void dueRead(String text, int people) {
        AloneRooms x = new AloneRooms();
        Check.type(x, text);
        check.due("read() of '" + text + "'", x.read(), people);
        check.due("count(1) of '" + text + "'", x.count(1), people);
    }

    private static void dueFault(String text, int fault) {
        AloneRooms x = new AloneRooms();
        Check.type(x, text);
        check.due("count(7) of '" + text + "'", x.count(7), text.length());
        check.due("read() of '" + text + "'", x.read(), -10 - fault);
        check.dueStatus(x, 0, 0, 0);
    }
}
