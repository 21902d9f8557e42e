/** Promises 12 to 17: beat, undo, standing, sill, purse, alone. */
public final class BeatTest {
    private static final Check check = new Check("BeatTest");

    public static void main(String[] args) {
        promise12Refused();
        promise12Once();
        promise12Each();
        promise12Halves();
        promise12Sleep();
        promise12Comers();
        promise12Gathering();
        promise12HalvesOfGathered();
        promise13Undo();
        promise13UndoEightAtMost();
        promise13UndoLeavesTheRest();
        promise14Standing();
        promise15Sill();
        promise16Purse();
        promise17Alone();
        check.end();
    }

    private static void promise12Refused() {
        AloneRooms x = Check.house("rooms 3;door 0 1;person 0;person 2;");
        int[] bad = {-1, Check.at(3, 0), Check.at(0, 3), Check.at(7, 0), Check.at(0, 2, 1), 64, 4096,
            Integer.MIN_VALUE, Integer.MAX_VALUE};
        for (int s : bad) {
            check.due("beat(" + s + ")", x.beat(s), AloneRooms.BAD);
        }
        check.due("beat: 0 can not get to 2", x.beat(Check.at(2, 2)), AloneRooms.NO);
        check.due("beat: 1 can not get to 1", x.beat(Check.at(1, 1)), AloneRooms.NO);
        check.due("count(4)", x.count(4), 0);
        check.due("count(6)", x.count(6), 0);
        check.dueStatus(x, bad.length, 2, 0);
        AloneRooms nobody = new AloneRooms();
        check.due("beat(0) of nobody", nobody.beat(0), 0);
        check.due("count(4)", nobody.count(4), 1);
        check.due("beat(1) of nobody", nobody.beat(1), AloneRooms.BAD);
    }

    private static void promise12Once() {
        AloneRooms x = Check.house("rooms 3;door 0 1;door 1 2;person 0;person 2;");
        check.due("ONCE: both stay alone", x.beat(Check.at(0, 2)), 0);
        check.due("ONCE: 0 comes to be alone elsewhere", x.beat(Check.at(1, 2)), 1);
        check.due("ONCE: together", x.beat(Check.at(1, 1)), 0);
        check.due("ONCE: left alone where one was not alone", x.beat(Check.at(1, 2)), 2);
        check.due("ONCE: they change places, alone before and behind", x.beat(Check.at(2, 1)), 2);
        check.due("ONCE: both stay", x.beat(Check.at(2, 1)), 0);
        x.cat(2, true);
        check.due("ONCE: to a cat", x.beat(Check.at(2, 1)), 0);
        x.cat(2, false);
        check.due("ONCE: the cat is gone, ahead of the beat", x.beat(Check.at(2, 1)), 0);
        check.dueSills(x, 0, 2, 2);
        check.duePurses(x, -3, -1);
    }

    private static void promise12Each() {
        AloneRooms x = Check.house("rooms 3;door 0 1;cat 2;person 0;person 2;law 1;");
        check.due("EACH", x.beat(Check.at(0, 2)), 1);
        check.due("EACH", x.beat(Check.at(0, 2)), 1);
        check.due("EACH", x.beat(Check.at(1, 2)), 1);
        check.dueSills(x, 2, 1, 0);
        check.duePurses(x, -3, 0);
    }

    private static void promise12Halves() {
        AloneRooms x = Check.house("rooms 2;door 0 1;person 0;law 2;");
        check.due("HALVES as ONCE", x.beat(0), 0);
        check.due("HALVES as ONCE", x.beat(1), 1);
        check.due("HALVES as ONCE", x.beat(1), 0);
    }

    private static void promise12Sleep() {
        AloneRooms x = Check.house("rooms 2;door 0 1;person 0;person 0;law 3;");
        check.due("SLEEP in beat 1", x.beat(Check.at(0, 1)), 2);
        check.due("SLEEP in beat 2", x.beat(Check.at(1, 0)), 0);
        check.due("SLEEP in beat 3", x.beat(Check.at(1, 0)), 2);
        check.due("SLEEP in beat 4: what lies is gathered", x.beat(Check.at(0, 0)), 0);
        check.duePurses(x, 0, -2);
        check.dueSills(x, 0, 2);
    }

    private static void promise12Comers() {
        AloneRooms x = Check.house("rooms 3;door 0 1;door 1 2;person 0;person 0;law 4;sill 1 7;");
        check.due("COMERS: who stays behind lays nothing", x.beat(Check.at(0, 1)), 1);
        check.due("COMERS: stay", x.beat(Check.at(0, 1)), 0);
        check.due("COMERS: change places", x.beat(Check.at(1, 0)), 2);
        check.due("COMERS: halves", x.beat(Check.at(1, 1)), 0);
        check.duePurses(x, 3, 3);
        check.dueSills(x, 1, 0, 0);
    }

    private static void promise12Gathering() {
        AloneRooms x = Check.house("rooms 3;door 0 1;door 1 2;person 1;person 0;person 2;person 0;sill 1 10;sill 0 4;");
        check.due("two come to one who stays", x.beat(Check.at(1, 1, 1, 0)), 1);
        check.duePurses(x, 0, 10, 0, -1);
        check.dueSills(x, 5, 0, 0);
        x.lay(1, 8);
        check.due("all stay, nobody gathers", x.beat(Check.at(1, 1, 1, 0)), 0);
        check.dueSills(x, 5, 8, 0);
        check.due("one goes away, nobody came", x.beat(Check.at(1, 1, 2, 0)), 1);
        check.dueSills(x, 5, 8, 1);
        check.due("the eldest of who came, not of all", x.beat(Check.at(1, 1, 1, 1)), 0);
        check.duePurses(x, 0, 10, 7, -1);
        check.dueSills(x, 5, 0, 1);

        AloneRooms cat = Check.house("rooms 2;door 0 1;cat 1;sill 1 5;person 0;");
        check.due("one with a cat is not two", cat.beat(1), 0);
        check.dueSills(cat, 0, 5);
        AloneRooms places = Check.house("rooms 2;door 0 1;sill 0 3;sill 1 5;person 0;person 0;person 1;person 1;");
        check.due("all change places", places.beat(Check.at(1, 1, 0, 0)), 0);
        check.duePurses(places, 5, 0, 3, 0);
    }

    private static void promise12HalvesOfGathered() {
        AloneRooms x = Check.house("rooms 2;door 0 1;sill 1 9;person 1;person 1;person 0;law 2;");
        x.beat(Check.at(1, 1, 1));
        check.duePurses(x, 4, 0, 5);
        x.beat(Check.at(0, 0, 1));
        x.lay(1, 1);
        check.duePurses(x, 4, 0, 4);
        x.beat(Check.at(1, 0, 1));
        check.duePurses(x, 5, -1, 4);
        x.lay(1, 7);
        x.beat(Check.at(1, 1, 1));
        check.duePurses(x, 8, 3, 4);

        AloneRooms two = Check.house("rooms 2;door 0 1;sill 1 5;person 0;person 0;person 1;law 4;");
        two.beat(Check.at(1, 1, 1));
        check.duePurses(two, 3, 2, 0);
    }

    private static void promise13Undo() {
        AloneRooms x = Check.house("rooms 3;door 0 1;door 1 2;person 0;person 1;sill 1 20;");
        check.due("undo()", x.undo(), AloneRooms.NO);
        long first = x.digest();
        x.beat(Check.at(1, 1));
        long second = x.digest();
        x.beat(Check.at(0, 2));
        check.due("count(6)", x.count(6), 2);
        check.due("undo()", x.undo(), 1);
        check.due("digest()", x.digest(), second);
        check.due("undo()", x.undo(), 1);
        check.due("digest()", x.digest(), first);
        check.due("count(4)", x.count(4), 0);
        check.due("undo()", x.undo(), AloneRooms.NO);
        check.dueStatus(x, 0, 2, 0);
    }

    private static void promise13UndoEightAtMost() {
        AloneRooms x = Check.house("rooms 2;door 0 1;person 0;law 1;");
        for (int i = 1; i <= 11; i++) {
            x.beat(i & 1);
        }
        check.due("count(6)", x.count(6), 8);
        check.dueSills(x, 5, 6);
        for (int i = 10; i >= 3; i--) {
            check.due("undo()", x.undo(), 1);
            check.due("standing()", x.standing(), i & 1);
            check.due("purse(0)", x.purse(0), -i);
            check.dueSills(x, i / 2, (i + 1) / 2);
            check.due("count(4)", x.count(4), i);
        }
        check.due("undo()", x.undo(), AloneRooms.NO);
        check.due("count(4)", x.count(4), 3);
    }

    private static void promise13UndoLeavesTheRest() {
        AloneRooms x = Check.house("rooms 3;door 0 1;person 0;person 0;sill 2 5;");
        x.beat(Check.at(0, 1));
        x.lay(2, 9);
        x.law(3);
        x.cat(0, true);
        x.door(1, 2, true);
        x.door(0, 1, false);
        x.wish(1, 2, 2);
        x.plan(0);
        x.spy(1, 3);
        check.due("undo()", x.undo(), 1);
        check.due("digest()", x.digest(), Check.digestOf(3, 2, 1, 1, 0, 1, 0, 0, 3, 0,
                0, -1, -1, -1, -1, 0, -1, 2, -1, -1,
                0, 1, 0, 0, 0, 0, 4, 3, 5, 0, 2, 0, 0));
    }

    private static void promise14Standing() {
        AloneRooms x = new AloneRooms();
        check.due("standing() of nobody", x.standing(), 0);
        x.person(4);
        x.person(3);
        x.person(2);
        x.person(1);
        check.due("standing()", x.standing(), 4 + 3 * 8 + 2 * 64 + 512);
    }

    private static void promise15Sill() {
        AloneRooms x = Check.house("rooms 2;sill 1 44;");
        check.dueSills(x, 0, 44);
        check.due("sill(2)", x.sill(2), AloneRooms.BAD);
        check.due("sill(-1)", x.sill(-1), AloneRooms.BAD);
        check.dueStatus(x, 2, 0, 0);
    }

    private static void promise16Purse() {
        AloneRooms x = Check.house("rooms 2;door 0 1;person 0;");
        check.due("purse(0)", x.purse(0), 0);
        x.beat(1);
        check.due("purse(0)", x.purse(0), -1);
        check.due("purse(1)", x.purse(1), -100000);
        check.due("purse(-1)", x.purse(-1), -100000);
        check.dueStatus(x, 2, 0, 0);
    }

    private static void promise17Alone() {
        AloneRooms x = Check.house("rooms 4;cat 3;person 0;person 1;person 1;person 3;");
        check.due("alone(0)", x.alone(0), 1);
        check.due("alone(1)", x.alone(1), 0);
        check.due("alone(2)", x.alone(2), 0);
        check.due("alone(3)", x.alone(3), 0);
        check.due("alone(4)", x.alone(4), AloneRooms.BAD);
        check.due("alone(-1)", x.alone(-1), AloneRooms.BAD);
        check.dueStatus(x, 2, 0, 0);
    }
}
