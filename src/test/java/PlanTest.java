/** Promises 18 to 26: plan, scrap, judge, cost, least, fewest, quiet, picks, join. */
public final class PlanTest {
    private static final Check check = new Check("PlanTest");

    public static void main(String[] args) {
        promise18Plan();
        promise19Scrap();
        promise20Judge();
        promise21Cost();
        promise22Least();
        promise22LeastKeepsWishes();
        promise22LeastOfLikeOnesTheFirst();
        promise22LeastByLaw();
        promise23Fewest();
        promise23FewestByLaw();
        promise24Quiet();
        promise25Picks();
        promise25PicksTheFirstRow();
        promise26Join();
        promise26JoinWhenNoneCan();
        promise26JoinMovesAll();
        check.end();
    }

    private static void promise18Plan() {
        AloneRooms x = Check.house("rooms 3;person 0;");
        int[] bad = {-1, 3, 7, 8, Integer.MAX_VALUE, Integer.MIN_VALUE};
        for (int s : bad) {
            check.due("plan(" + s + ")", x.plan(s), AloneRooms.BAD);
        }
        for (int i = 1; i <= 8; i++) {
            check.due("plan(2)", x.plan(2), i);
        }
        check.due("plan(2)", x.plan(2), AloneRooms.FULL);
        check.due("plan(3): BAD ahead of FULL", x.plan(3), AloneRooms.BAD);
        check.due("count(5)", x.count(5), 8);
        check.dueStatus(x, bad.length + 1, 0, 1);
    }

    private static void promise19Scrap() {
        AloneRooms x = Check.house("rooms 3;person 0;");
        check.due("scrap()", x.scrap(), 0);
        x.plan(1);
        x.plan(2);
        check.due("scrap()", x.scrap(), 2);
        check.due("scrap()", x.scrap(), 0);
        check.due("count(5)", x.count(5), 0);
        check.due("plan(0)", x.plan(0), 1);
    }

    private static void promise20Judge() {
        AloneRooms x = Check.house("rooms 3;door 0 1;door 1 2;person 0;person 2;");
        check.due("judge() of none", x.judge(), AloneRooms.NONE);
        x.plan(Check.at(1, 1));
        x.plan(Check.at(2, 0));
        check.due("judge()", x.judge(), AloneRooms.NONE);
        x.plan(Check.at(2, 2));
        check.due("judge(): 0 to 2", x.judge(), 2);
        x.plan(Check.at(2, 2));
        check.due("judge(): still the first", x.judge(), 2);
        x.beat(Check.at(0, 2));
        check.due("judge()", x.judge(), 2);
        x.door(0, 1, false);
        check.due("judge() from where they are", x.judge(), 0);
        check.dueStatus(x, 0, 0, 0);
        AloneRooms more = Check.house("rooms 2;person 0;");
        more.plan(0);
        more.person(1);
        check.due("judge(): who came later is told in 0", more.judge(), 0);
    }

    private static void promise21Cost() {
        AloneRooms x = Check.house("rooms 3;door 0 1;door 1 2;person 0;person 0;law 2;");
        check.due("cost(0) of none", x.cost(0), 0);
        x.plan(Check.at(0, 1));
        x.plan(Check.at(0, 1));
        x.plan(Check.at(0, 2));
        int[] costs = {3, 6, 3, 4, 2};
        for (int law = 0; law < 5; law++) {
            check.due("cost(" + law + ")", x.cost(law), costs[law]);
        }
        check.due("cost(5)", x.cost(5), AloneRooms.BAD);
        check.due("cost(-1)", x.cost(-1), AloneRooms.BAD);
        check.dueStatus(x, 2, 0, 0);
        x.beat(Check.at(0, 0));
        check.due("cost(3) from an odd beat on", x.cost(3), 2);
        check.dueSills(x, 0, 0, 0);
        x.plan(Check.at(0, 0));
        check.due("cost(0)", x.cost(0), AloneRooms.NO);
        check.due("cost(5): BAD ahead of NO", x.cost(5), AloneRooms.BAD);
        check.dueStatus(x, 3, 1, 0);
        x.scrap();
        x.plan(Check.at(0, 0));
        check.due("cost(1): what was scrapped is gone", x.cost(1), 0);
        for (int i = 2; i <= 8; i++) {
            x.plan(Check.at(0, 1 - i % 2));
        }
        check.due("cost(1) of eight", x.cost(1), 8);
        check.due("cost(0) of eight", x.cost(0), 8);
        check.due("cost(4) of eight", x.cost(4), 4);
    }

    private static void dueLeast(AloneRooms x, int h, int least, int... rows) {
        check.due("least(" + h + ", 0)", x.least(h, 0), least);
        for (int i = 0; i < rows.length; i++) {
            check.due("least(" + h + ", " + (i + 1) + ")", x.least(h, i + 1), rows[i]);
        }
    }

    private static void promise22Least() {
        AloneRooms x = new AloneRooms();
        dueLeast(x, 4, 0, 0, 0, 0, 0);
        check.due("least(0, 0)", x.least(0, 0), AloneRooms.BAD);
        check.due("least(5, 0)", x.least(5, 0), AloneRooms.BAD);
        check.due("least(2, 3)", x.least(2, 3), AloneRooms.BAD);
        check.due("least(2, -1)", x.least(2, -1), AloneRooms.BAD);
        check.dueStatus(x, 4, 0, 0);
        AloneRooms apart = Check.house("rooms 3;door 0 1;door 1 2;person 0;person 2;law 1;");
        dueLeast(apart, 1, 0, Check.at(1, 1));
        dueLeast(apart, 2, 0, Check.at(1, 1), Check.at(0, 0));
        apart.door(1, 2, false);
        dueLeast(apart, 2, 4, Check.at(0, 2), Check.at(0, 2));
        AloneRooms four = Check.house("rooms 5;door 0 1;door 1 2;door 2 3;door 3 4;person 0;person 1;person 3;person 4;");
        dueLeast(four, 1, 0, Check.at(0, 0, 3, 3));
        four.wish(0, 4, 4);
        four.wish(3, 3, 4);
        four.wish(2, 2, 4);
        dueLeast(four, 4, 0, Check.at(1, 1, 3, 3), Check.at(2, 2, 4, 4), Check.at(3, 3, 4, 4), Check.at(4, 3, 3, 4));
        check.due("standing()", apart.standing(), Check.at(0, 2));
        check.due("count(4)", apart.count(4), 0);
        AloneRooms longer = Check.house("rooms 3;door 0 1;door 1 2;cat 2;person 1;law 1;wish 0 4 1;");
        dueLeast(longer, 4, 1, 2, 2, 2, 1);
        dueLeast(longer, 2, 0, 2, 2);
    }

    private static void promise22LeastKeepsWishes() {
        AloneRooms x = Check.house("rooms 3;door 0 1;door 1 2;person 0;person 0;wish 0 2 2;wish 1 3 0;");
        dueLeast(x, 1, 0, Check.at(0, 0));
        dueLeast(x, 2, 0, Check.at(1, 1), Check.at(2, 2));
        dueLeast(x, 3, 2, Check.at(1, 1), Check.at(2, 0), Check.at(2, 0));
        x.wish(1, 2, 2);
        dueLeast(x, 3, AloneRooms.NONE, AloneRooms.NONE, AloneRooms.NONE, AloneRooms.NONE);
        dueLeast(x, 2, 0, Check.at(1, 1), Check.at(2, 2));
        dueLeast(x, 4, AloneRooms.NONE, AloneRooms.NONE);
        x.wish(1, 3, AloneRooms.NONE);
        dueLeast(x, 3, 0, Check.at(1, 1), Check.at(2, 2), Check.at(1, 1));
        x.wish(0, 1, 2);
        dueLeast(x, 1, AloneRooms.NONE, AloneRooms.NONE);
        check.dueStatus(x, 0, 0, 0);
    }

    private static void promise22LeastOfLikeOnesTheFirst() {
        AloneRooms x = Check.house("rooms 5;door 0 1;door 0 2;door 0 3;door 0 4;person 4;person 3;cat 0;cat 3;cat 4;");
        dueLeast(x, 1, 0, Check.at(0, 0));
        x.cat(0, false);
        dueLeast(x, 1, 0, Check.at(0, 0));
        x.wish(1, 1, 3);
        dueLeast(x, 1, 0, Check.at(4, 3));
        x.wish(1, 1, AloneRooms.NONE);
        x.wish(0, 1, 4);
        dueLeast(x, 2, 0, Check.at(4, 3), Check.at(0, 0));
        x.wish(1, 2, 0);
        x.cat(0, true);
        dueLeast(x, 2, 0, Check.at(4, 0), Check.at(0, 0));
    }

    private static void promise22LeastByLaw() {
        AloneRooms x = Check.house("rooms 2;door 0 1;person 0;wish 0 1 1;");
        int[] two = {1, 2, 1, 1, 1};
        for (int law = 0; law < 5; law++) {
            x.law(law);
            check.due("least(2, 0) by " + law, x.least(2, 0), two[law]);
        }
        x.law(3);
        x.beat(0);
        check.due("least(1, 0) in an even beat", x.least(1, 0), 0);
        check.due("least(4, 0)", x.least(4, 0), 2);
    }

    private static void promise23Fewest() {
        AloneRooms x = Check.house("rooms 4;door 0 1;door 1 2;door 2 3;person 0;person 0;");
        check.due("fewest: here", x.fewest(0), 0);
        check.due("fewest", x.fewest(Check.at(3, 3)), 3);
        check.due("fewest: one would be alone", x.fewest(Check.at(3, 2)), AloneRooms.NONE);
        x.cat(2, true);
        x.cat(3, true);
        check.due("fewest: to cats", x.fewest(Check.at(3, 2)), 3);
        AloneRooms four = Check.house("rooms 5;door 0 1;door 1 2;door 2 3;door 3 4;person 0;person 0;person 4;person 4;");
        check.due("fewest: they change places", four.fewest(Check.at(4, 4, 0, 0)), 4);
        check.due("fewest: others meet", four.fewest(Check.at(2, 3, 3, 2)), 3);
        x.door(0, 1, false);
        check.due("fewest: no way", x.fewest(Check.at(3, 3)), AloneRooms.NONE);
        check.due("fewest(-1)", x.fewest(-1), AloneRooms.BAD);
        check.due("fewest(4)", x.fewest(4), AloneRooms.BAD);
        check.due("fewest(64)", x.fewest(64), AloneRooms.BAD);
        check.dueStatus(x, 3, 0, 0);
        check.due("fewest(0) of nobody", new AloneRooms().fewest(0), 0);
        check.due("fewest(1) of nobody", new AloneRooms().fewest(1), AloneRooms.BAD);
    }

    private static void promise23FewestByLaw() {
        AloneRooms x = Check.house("rooms 3;door 0 1;door 1 2;person 0;person 0;");
        int[] apart = {AloneRooms.NONE, AloneRooms.NONE, AloneRooms.NONE, 2, AloneRooms.NONE};
        for (int law = 0; law < 5; law++) {
            x.law(law);
            check.due("fewest apart by " + law, x.fewest(Check.at(0, 1)), apart[law]);
        }
        x.law(3);
        check.due("fewest: together, behind an odd beat", x.fewest(Check.at(1, 1)), 1);
        check.due("fewest: together, behind an even beat", x.fewest(Check.at(2, 2)), 2);
        x.beat(0);
        check.due("fewest: together, behind an even beat", x.fewest(Check.at(1, 1)), 1);
        check.due("fewest from an odd beat", x.fewest(Check.at(0, 1)), 1);
        check.due("fewest from an odd beat", x.fewest(Check.at(0, 2)), 3);
        x.law(0);
        x.beat(Check.at(0, 1));
        check.due("ONCE: staying alone is free", x.fewest(Check.at(0, 0)), 1);
        check.due("ONCE: back", x.fewest(Check.at(0, 1)), 0);
        AloneRooms three = Check.house("rooms 4;door 0 1;door 1 2;door 2 3;person 0;person 3;person 2;");
        check.due("ONCE: one stays alone, one comes away", three.fewest(Check.at(0, 3, 3)), 1);
        check.due("ONCE: from alone to two", three.fewest(Check.at(0, 2, 2)), 1);
        three.law(1);
        check.due("EACH: nobody may stay alone", three.fewest(Check.at(0, 2, 2)), AloneRooms.NONE);
        AloneRooms comers = Check.house("rooms 3;door 0 1;door 1 2;person 0;person 0;person 1;law 4;");
        check.due("COMERS: one stays behind", comers.fewest(Check.at(0, 1, 1)), 1);
    }

    private static void promise24Quiet() {
        AloneRooms x = new AloneRooms();
        int[] quiet = {0, 5, 5, 65};
        check.due("quiet() of nobody", x.quiet(), 1);
        for (int p = 0; p < 4; p++) {
            x.person(p);
            check.due("quiet()", x.quiet(), quiet[p]);
        }
        x.rooms(1);
        x.person(0);
        check.due("quiet()", x.quiet(), 0);
        x.cat(0, true);
        check.due("quiet()", x.quiet(), 1);
        x.rooms(3);
        x.cat(1, true);
        x.cat(2, true);
        x.person(0);
        x.person(0);
        check.due("quiet() with cats", x.quiet(), 5);
    }

    private static void duePicks(AloneRooms x, int room, int l, int most, int... row) {
        check.due("picks(" + room + ", " + l + ", NONE)", x.picks(room, l, AloneRooms.NONE), most);
        for (int i = 0; i < row.length; i++) {
            check.due("picks(" + room + ", " + l + ", " + i + ")", x.picks(room, l, i), row[i]);
        }
        check.due("picks: not so many", x.picks(room, l, row.length), -5);
    }

    private static void promise25Picks() {
        AloneRooms x = Check.house("rooms 4;door 0 1;door 1 2;sill 0 3;sill 1 4;sill 2 5;sill 3 99;");
        duePicks(x, 0, 0, 3, 0);
        duePicks(x, 0, 1, 7, 0, 1);
        duePicks(x, 0, 2, 12, 0, 1, 2);
        duePicks(x, 0, 6, 12, 0, 1, 2);
        duePicks(x, 1, 1, 9, 1, 2);
        duePicks(x, 1, 2, 9, 1, 2);
        duePicks(x, 1, 3, 12, 1, 0, 1, 2);
        duePicks(x, 3, 6, 99, 3);
        check.due("picks(3, 6, MAX)", x.picks(3, 6, Integer.MAX_VALUE), -5);
        check.dueStatus(x, 0, 0, 0);
        check.due("picks(4, 0, 0)", x.picks(4, 0, 0), -10);
        check.due("picks(-1, 0, 0)", x.picks(-1, 0, 0), -10);
        check.due("picks(0, 7, 0)", x.picks(0, 7, 0), -10);
        check.due("picks(0, -1, 0)", x.picks(0, -1, 0), -10);
        check.due("picks(0, 0, -2)", x.picks(0, 0, -2), -10);
        check.dueStatus(x, 5, 0, 0);
        check.dueSills(x, 3, 4, 5, 99);
    }

    private static void promise25PicksTheFirstRow() {
        AloneRooms x = Check.house("rooms 5;door 0 1;door 0 2;door 1 3;door 2 3;door 3 4;");
        duePicks(x, 0, 6, 0, 0);
        x.lay(3, 8);
        duePicks(x, 0, 6, 8, 0, 1, 3);
        x.lay(2, 1);
        duePicks(x, 0, 6, 9, 0, 2, 3);
        x.lay(4, 2);
        x.lay(1, 1);
        duePicks(x, 0, 6, 12, 0, 1, 0, 2, 3, 4);
        duePicks(x, 0, 4, 11, 0, 1, 3, 4);
        duePicks(x, 0, 5, 12, 0, 1, 0, 2, 3, 4);
        AloneRooms star = Check.house("rooms 4;door 0 1;door 0 2;door 0 3;sill 1 1;sill 2 1;sill 3 1;");
        duePicks(star, 0, 6, 3, 0, 1, 0, 2, 0, 3);
    }

    private static void promise26Join() {
        AloneRooms x = Check.house("rooms 4;door 0 1;person 0;person 1;person 3;law 1;");
        check.due("join(0)", x.join(0), AloneRooms.BAD);
        check.due("join(5)", x.join(5), AloneRooms.BAD);
        check.due("least(2, 0)", x.least(2, 0), 2);
        check.due("join(2): 0 and 3, all come together", x.join(2), 3);
        check.due("least(2, 0): nothing is changed", x.least(2, 0), 2);
        x.cat(3, true);
        check.due("join(2): nothing less than nothing", x.join(2), AloneRooms.NONE);
        x.cat(3, false);
        x.cat(2, true);
        check.due("join(2): still 0 and 3", x.join(2), 3);
        check.dueStatus(x, 2, 0, 0);
        x.person(0);
        check.due("join(1)", x.join(1), AloneRooms.NO);
        check.due("join(5): BAD ahead of NO", x.join(5), AloneRooms.BAD);
        check.dueStatus(x, 3, 1, 0);
        check.due("join(4) of nobody", new AloneRooms().join(4), AloneRooms.NONE);
        AloneRooms one = Check.house("rooms 1;person 0;law 1;");
        check.due("join(4) of one room", one.join(4), AloneRooms.NONE);
    }

    private static void promise26JoinWhenNoneCan() {
        AloneRooms x = Check.house("rooms 4;person 2;law 1;wish 0 1 3;");
        check.due("least(1, 0)", x.least(1, 0), AloneRooms.NONE);
        check.due("join(1): anything", x.join(1), 23);
        x.wish(0, 2, 0);
        check.due("join(1)", x.join(1), 23);
        check.due("join(2): no pair", x.join(2), AloneRooms.NONE);
        x.door(2, 1, true);
        check.due("join(1)", x.join(1), 13);
        x.door(3, 0, true);
        check.due("join(2): person and wish are in one", x.join(2), 2);
        check.dueStatus(x, 0, 0, 0);
    }

    private static void promise26JoinMovesAll() {
        AloneRooms cats = Check.house("rooms 5;cat 4;person 1;law 1;");
        check.due("join(1): the cat's room", cats.join(1), 14);
        AloneRooms doors = Check.house("rooms 5;door 3 4;person 1;person 4;law 1;");
        check.due("join(1): a room of doors", doors.join(1), 13);
        AloneRooms away = Check.house("rooms 5;door 3 4;cat 4;person 1;law 1;wish 0 1 4;");
        check.due("join(1): away through the other one's door", away.join(1), 13);
        AloneRooms into = Check.house("rooms 5;door 4 3;door 4 0;cat 3;cat 4;person 4;law 1;wish 0 1 1;wish 0 2 4;wish 0 3 0;");
        check.due("join(3): into it through the other one's door, and others stay", into.join(3), 13);
        AloneRooms lowest = Check.house("rooms 5;door 0 3;door 0 1;cat 0;cat 1;cat 2;person 0;law 1;wish 0 1 2;wish 0 2 1;");
        check.due("join(1): from room 0", lowest.join(1), 2);
        check.due("join(2): then through a door", lowest.join(2), 2);
        lowest.wish(0, 2, 0);
        lowest.wish(0, 3, 3);
        check.due("join(3): from room 0 into 2 with its cat", lowest.join(3), 23);
        AloneRooms wishes = Check.house("rooms 5;cat 2;person 1;wish 0 1 4;wish 0 2 1;");
        check.due("join(2): both wishes in one", wishes.join(2), 14);
        AloneRooms beats = Check.house("rooms 2;person 0;person 1;law 3;");
        check.due("join(1) in an odd beat", beats.join(1), 1);
        beats.beat(Check.at(0, 1));
        check.due("join(1) in an even beat", beats.join(1), AloneRooms.NONE);
    }
}
