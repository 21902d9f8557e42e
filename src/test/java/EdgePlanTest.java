import java.util.Random;
import java.util.function.ToLongFunction;

/** Boundaries of plans, evenings, searches and picks: promises 18 to 26, and their terms. */
public final class EdgePlanTest {
    private static final Check check = new Check("EdgePlanTest");
    private static final int LOWEST = Integer.MIN_VALUE, HIGHEST = Integer.MAX_VALUE;
    private static final String ROW = "rooms 5;door 0 1;door 1 2;door 2 3;door 3 4;";

    public static void main(String[] args) {
        thePlanHasEightAtMost();
        judgeIsOfTheFirst();
        costIsByALawFromNowOn();
        wishesAreFromNow();
        leastMindsTheWishesOfItsBeats();
        leastOfLikeOnesTheFirst();
        leastNone();
        fewestOfBeats();
        fewestByOddAndEven();
        quietOfAllStandings();
        picksOfSixStepsAtMost();
        picksOfLikeOnesTheFirst();
        joinMakesOneOfTwo();
        joinIsFewerThanNow();
        promise18HowMany();
        promise18Bad();
        promise18FullOfEight();
        promise19HowManyItHad();
        promise20Judge();
        promise20None();
        promise21Cost();
        promise21Bad();
        promise21NoItCanNotBe();
        promise22Least();
        promise22None();
        promise22Bad();
        promise23Fewest();
        promise23None();
        promise23Bad();
        promise24Quiet();
        promise25Picks();
        promise25NotSoMany();
        promise25Bad();
        promise26Join();
        promise26None();
        promise26Bad();
        promise26NoThereAreFour();
        check.end();
    }

    private static void bad(String call, ToLongFunction<AloneRooms> asked, int answer) {
        Twins.fresh(check).dueRefused(call, asked, answer, Twins.BAD);
        Twins.some(check).dueRefused(call, asked, answer, Twins.BAD);
        Twins.full(check).dueRefused(call, asked, answer, Twins.BAD);
    }

    private static void unchanged(String call, ToLongFunction<AloneRooms> asked) {
        Twins.fresh(check).dueUnchanged(call, asked);
        Twins.some(check).dueUnchanged(call, asked);
        Twins.full(check).dueUnchanged(call, asked);
    }

    private static void dueRow(AloneRooms x, int h, int least, int... standings) {
        check.due("least(" + h + ", 0)", x.least(h, 0), least);
        for (int beat = 1; beat <= h; beat++) {
            check.due("least(" + h + ", " + beat + ")", x.least(h, beat), standings[beat - 1]);
        }
    }

    private static void duePicks(AloneRooms x, int room, int l, int most, int... row) {
        check.due("picks(" + room + ", " + l + ", NONE)", x.picks(room, l, -1), most);
        for (int i = 0; i < row.length; i++) {
            check.due("picks(" + room + ", " + l + ", " + i + ")", x.picks(room, l, i), row[i]);
        }
        check.due("picks(" + room + ", " + l + ", " + row.length + ")", x.picks(room, l, row.length), -5);
    }

    // ---- terms

    private static void thePlanHasEightAtMost() {
        check.sentence(0, "THE PLAN: 0 to 8 BEATS as told, each where each one is behind it.");
        AloneRooms x = Check.house("rooms 2;person 0;law 1;");
        check.due("judge() of 0", x.judge(), -1);
        check.due("cost(1) of 0", x.cost(1), 0);
        for (int i = 1; i <= 8; i++) {
            check.due("plan(0)", x.plan(0), i);
            check.due("cost(1) of " + i, x.cost(1), i);
            check.due("judge() of " + i, x.judge(), -1);
        }
        check.due("plan(0) of a ninth", x.plan(0), -4);
        check.due("cost(1)", x.cost(1), 8);
        x.scrap();
        check.due("plan(1): it need not be one that can be", x.plan(1), 1);
        check.due("judge()", x.judge(), 0);
    }

    private static void judgeIsOfTheFirst() {
        check.sentence(0, "JUDGE: the first that can not be, from where they are now; none.");
        for (int wrong = 0; wrong < 8; wrong++) {
            AloneRooms x = Check.house("rooms 3;door 0 1;person 0;");
            for (int i = 0; i < 8; i++) {
                x.plan(i == wrong ? 2 : i % 2);
            }
            check.due("judge(), wrong is " + wrong, x.judge(), wrong);
        }
        AloneRooms x = Check.house("rooms 3;door 0 1;door 1 2;person 0;");
        x.plan(1);
        x.plan(2);
        check.due("judge() from 0", x.judge(), -1);
        x.beat(1);
        check.due("judge() from 1", x.judge(), -1);
        x.beat(2);
        check.due("judge() from 2", x.judge(), -1);
        x.door(0, 1, false);
        x.undo();
        x.undo();
        check.due("judge() from 0 without its door", x.judge(), 0);
        x.door(0, 1, true);
        x.door(1, 2, false);
        check.due("judge() from 0 without the second door", x.judge(), 1);
        x.person(2);
        check.due("judge(): who came since is planned to be in 0", x.judge(), 0);
    }

    private static void costIsByALawFromNowOn() {
        check.sentence(0, "COST by a LAW: PENNIES that are laid by THE PLAN, were that THE LAW, from now on.");
        AloneRooms x = Check.house("rooms 3;door 0 1;cat 2;door 1 2;person 0;person 0;law 4;");
        x.plan(Check.at(0, 1));
        x.plan(Check.at(0, 2));
        x.plan(Check.at(0, 2));
        x.plan(Check.at(1, 1));
        x.plan(Check.at(0, 1));
        int[] even = {4, 6, 4, 5, 2};
        int[] odd = {4, 6, 4, 1, 2};
        for (int law = 0; law < 5; law++) {
            check.due("cost(" + law + ")", x.cost(law), even[law]);
        }
        x.beat(Check.at(0, 0));
        for (int law = 0; law < 5; law++) {
            check.due("cost(" + law + ") behind a beat", x.cost(law), odd[law]);
        }
        x.beat(Check.at(0, 1));
        int[] apart = {2, 6, 2, 5, 1};
        for (int law = 0; law < 5; law++) {
            check.due("cost(" + law + ") from where they are apart", x.cost(law), apart[law]);
        }
        check.due("law(0): it is only asked", x.law(0), 4);
    }

    private static void wishesAreFromNow() {
        check.sentence(0, "WISHES: one wants to be in a ROOM behind BEAT h (1 .. 4) from now.");
        for (int h = 1; h <= 4; h++) {
            AloneRooms x = Check.house(ROW + "cat 0;cat 1;cat 2;cat 3;cat 4;person 0;");
            x.wish(0, h, h);
            check.due("least of the beat ahead", h == 1 ? 0 : x.least(h - 1, h - 1), 0);
            check.due("least(" + h + ", " + h + ")", x.least(h, h), h);
            x.beat(1);
            check.due("least(" + h + ", " + h + ") behind a beat", x.least(h, h), h);
            check.due("the wish is told as it was", x.wish(0, h, -1), h);
        }
    }

    private static void leastMindsTheWishesOfItsBeats() {
        check.sentence(0, "LEAST for H BEATS (1 .. 4): the fewest PENNIES laid, all WISHES of BEATS 1 .. H kept;");
        AloneRooms x = Check.house(ROW + "cat 0;person 0;law 1;wish 0 3 1;wish 0 4 4;");
        dueRow(x, 1, 0, 0);
        dueRow(x, 2, 0, 0, 0);
        dueRow(x, 3, 1, 0, 0, 1);
        dueRow(x, 4, -1, -1, -1, -1, -1);
        x.wish(0, 4, 2);
        dueRow(x, 4, 2, 0, 0, 1, 2);
        x.law(3);
        dueRow(x, 4, 1, 0, 0, 1, 2);
        AloneRooms four = Check.house(ROW + "person 0;person 1;person 3;person 4;wish 0 4 0;wish 1 4 1;wish 2 4 3;wish 3 4 4;");
        check.due("least(4, 0): apart again behind the last", four.least(4, 0), 0);
        check.due("least(4, 1): ONCE, all stay", four.least(4, 1), four.standing());
        four.law(1);
        dueRow(four, 4, 4, Check.at(0, 0, 3, 3), Check.at(0, 0, 2, 2), Check.at(0, 0, 3, 3), four.standing());
    }

    private static void leastOfLikeOnesTheFirst() {
        check.sentence(0, "of like ones the first (by BEATS, in each by PERSON 0's ROOM, then 1's, ..);");
        AloneRooms x = Check.house(ROW + "cat 0;cat 1;cat 2;cat 3;cat 4;person 4;person 0;");
        dueRow(x, 4, 0, Check.at(3, 0), Check.at(2, 0), Check.at(1, 0), Check.at(0, 0));
        x.wish(0, 4, 4);
        dueRow(x, 4, 0, Check.at(3, 0), Check.at(2, 0), Check.at(3, 0), Check.at(4, 0));
        x.wish(1, 1, 1);
        dueRow(x, 2, 0, Check.at(3, 1), Check.at(2, 0));
        x.cat(3, false);
        x.wish(0, 4, -1);
        x.wish(1, 1, -1);
        x.law(1);
        dueRow(x, 1, 0, Check.at(4, 0));
        dueRow(x, 4, 0, Check.at(4, 0), Check.at(4, 0), Check.at(4, 0), Check.at(4, 0));
        AloneRooms hermit = Check.house(ROW + "person 3;law 1;");
        dueRow(hermit, 4, 4, 2, 1, 0, 0);
        hermit.wish(0, 3, 4);
        dueRow(hermit, 4, 4, 2, 3, 4, 3);
        hermit.law(0);
        dueRow(hermit, 4, 1, 3, 3, 4, 4);
        AloneRooms apart = Check.house("rooms 5;door 0 1;door 3 4;person 1;person 4;law 1;");
        dueRow(apart, 2, 4, Check.at(0, 3), Check.at(0, 3));
        apart.wish(0, 1, 1);
        dueRow(apart, 2, 4, Check.at(1, 3), Check.at(0, 3));
        AloneRooms order = Check.house("rooms 3;door 0 1;door 1 2;door 0 2;person 1;person 2;person 0;law 1;wish 2 1 2;");
        dueRow(order, 1, 0, Check.at(2, 2, 2));
        order.wish(2, 1, -1);
        order.wish(0, 1, 1);
        dueRow(order, 1, 0, Check.at(1, 1, 1));
        order.cat(0, true);
        dueRow(order, 1, 0, Check.at(1, 0, 1));
    }

    private static void leastNone() {
        check.sentence(0, "none: they can not be kept.");
        AloneRooms x = Check.house(ROW + "person 0;person 4;");
        for (int h = 1; h <= 4; h++) {
            x.wish(0, h, h);
            check.due("least(" + h + ", 0): as far as one can get", x.least(h, 0) >= 0 ? 1 : 0, 1);
            x.wish(0, h, -1);
            if (h < 4) {
                x.wish(0, h, h + 1);
                check.due("least(" + h + ", 0): one room too far", x.least(h, 0), -1);
                check.due("least(" + h + ", " + h + ")", x.least(h, h), -1);
                check.due("least(4, 4)", x.least(4, 4), -1);
                x.wish(0, h, -1);
            }
        }
        x.wish(0, 1, 0);
        x.wish(0, 2, 2);
        check.due("least(2, 0): each can be, but not both", x.least(2, 0), -1);
        check.due("least(1, 0)", x.least(1, 0), 0);
        x.wish(0, 2, 1);
        x.wish(1, 1, 2);
        check.due("least(1, 0): another one's wish", x.least(1, 0), -1);
    }

    private static void fewestOfBeats() {
        check.sentence(0, "FEWEST: the fewest BEATS (0 .. 999) from now to a told standing by which nobody lays anything");
        AloneRooms x = Check.house(ROW + "cat 0;cat 1;cat 2;cat 3;cat 4;person 0;person 4;");
        for (int r = 0; r < 5; r++) {
            check.due("fewest of " + r, x.fewest(Check.at(r, 4)), r);
        }
        check.due("fewest of both", x.fewest(Check.at(3, 2)), 3);
        x.cat(2, false);
        check.due("fewest: both meet in 2", x.fewest(Check.at(2, 2)), 2);
        check.due("fewest: they meet in 2 and pass", x.fewest(Check.at(4, 0)), 4);
        check.due("fewest: one would lay in 2", x.fewest(Check.at(2, 4)), -1);
        x.law(4);
        check.due("fewest: COMERS, one stays in 2", x.fewest(Check.at(2, 4)), 4);
        check.due("fewest here", x.fewest(x.standing()), 0);
        AloneRooms far = Check.house("rooms 5;door 0 1;door 0 3;door 1 2;door 3 4;cat 0;person 2;person 1;person 2;person 4;law 4;");
        check.due("fewest: a far one", far.fewest(Check.at(0, 4, 3, 2)), 11);
        AloneRooms corner = Check.house(ROW + "cat 0;cat 1;cat 2;cat 3;cat 4;person 0;person 0;person 0;person 0;");
        for (int law = 0; law < 5; law++) {
            corner.law(law);
            check.due("fewest: of all standings the last, by " + law, corner.fewest(2340), 4);
        }
        AloneRooms alone = Check.house("rooms 2;door 0 1;person 0;law 1;");
        check.due("fewest: none are laid by no beat", alone.fewest(0), 0);
        check.due("fewest(1)", alone.fewest(1), -1);
    }

    private static void fewestByOddAndEven() {
        check.sentence(0, "(BEATS are odd and even as from now); none.");
        AloneRooms x = Check.house(ROW + "cat 0;cat 2;cat 4;person 0;law 3;");
        int[] fromEven = {0, 2, 3, 4, 5};
        int[] fromOdd = {0, 1, 2, 3, 4};
        for (int beats = 0; beats < 4; beats++) {
            int[] fewest = beats % 2 == 0 ? fromEven : fromOdd;
            for (int r = 0; r < 5; r++) {
                check.due("fewest(" + r + ") behind " + beats, x.fewest(r), fewest[r]);
            }
            x.beat(0);
        }
        x.undo();
        check.due("fewest(4): as from the beat ahead", x.fewest(4), 4);
        x.cat(2, false);
        check.due("fewest(4): no cat on the way", x.fewest(4), -1);
        check.due("fewest(2): no cat there", x.fewest(2), -1);
        check.due("fewest(1)", x.fewest(1), 1);
    }

    private static void quietOfAllStandings() {
        check.sentence(0, "QUIET: in how many of all standings nobody is ALONE.");
        for (int n = 1; n <= 5; n++) {
            for (int people = 0; people <= 4; people++) {
                AloneRooms x = new AloneRooms();
                x.rooms(n);
                for (int p = 0; p < people; p++) {
                    x.person(n - 1);
                }
                for (int c = 0; c <= n; c++) {
                    check.due("quiet() of " + n + " rooms, " + people + " people, " + c + " cats", x.quiet(), quiet(n, people, c));
                    x.cat(c, true);
                }
            }
        }
    }

    /** By how people are with one another: all, three, two and two, two, none; who is alone has a cat. */
    private static int quiet(int n, int people, int c) {
        switch (people) {
            case 0: return 1;
            case 1: return c;
            case 2: return n + c * (c - 1);
            case 3: return n + 3 * c * (n - 1) + c * (c - 1) * (c - 2);
            default: return n + 4 * c * (n - 1) + 3 * n * (n - 1) + 6 * c * (c - 1) * (n - 2)
                    + c * (c - 1) * (c - 2) * (c - 3);
        }
    }

    private static void picksOfSixStepsAtMost() {
        check.sentence(0, "PICKS: two go hand in hand from a ROOM, L steps at most (0 .. 6) through DOORS, "
                + "and take what lies on SILLS of ROOMS in which they are (the first, too): the most;");
        AloneRooms row = Check.house(ROW + "sill 0 1;sill 1 2;sill 2 4;sill 3 8;sill 4 16;");
        duePicks(row, 2, 0, 4, 2);
        duePicks(row, 2, 1, 12, 2, 3);
        duePicks(row, 2, 2, 28, 2, 3, 4);
        duePicks(row, 2, 3, 28, 2, 3, 4);
        duePicks(row, 2, 4, 30, 2, 1, 2, 3, 4);
        duePicks(row, 2, 5, 30, 2, 1, 2, 3, 4);
        duePicks(row, 2, 6, 31, 2, 1, 0, 1, 2, 3, 4);
        AloneRooms star = Check.house("rooms 5;door 0 1;door 0 2;door 0 3;door 0 4;sill 0 1;sill 1 2;sill 2 4;sill 3 8;sill 4 16;");
        duePicks(star, 0, 5, 29, 0, 2, 0, 3, 0, 4);
        duePicks(star, 0, 6, 29, 0, 2, 0, 3, 0, 4);
        duePicks(star, 1, 5, 27, 1, 0, 3, 0, 4);
        duePicks(star, 1, 6, 31, 1, 0, 2, 0, 3, 0, 4);
        AloneRooms shut = Check.house("rooms 5;sill 0 999;sill 4 7;");
        duePicks(shut, 4, 6, 7, 4);
        duePicks(shut, 3, 6, 0, 3);
        AloneRooms all = Check.house(ROW + "sill 0 999;sill 1 999;sill 2 999;sill 3 999;sill 4 999;person 4;law 1;");
        all.beat(4);
        duePicks(all, 0, 4, 4996, 0, 1, 2, 3, 4);
    }

    private static void picksOfLikeOnesTheFirst() {
        check.sentence(0, "of like ones the first row (fewer steps ahead, then by ROOMS): the i-th ROOM.");
        AloneRooms x = Check.house("rooms 5;door 0 1;door 0 2;door 0 3;door 0 4;door 3 4;sill 3 1;sill 4 1;");
        duePicks(x, 0, 6, 2, 0, 3, 4);
        duePicks(x, 0, 1, 1, 0, 3);
        x.lay(1, 1);
        duePicks(x, 0, 3, 2, 0, 3, 4);
        duePicks(x, 0, 4, 3, 0, 1, 0, 3, 4);
        x.lay(1, 0);
        x.lay(3, 0);
        duePicks(x, 0, 6, 1, 0, 4);
        x.lay(4, 0);
        duePicks(x, 0, 6, 0, 0);
        x.lay(0, 5);
        duePicks(x, 4, 6, 5, 4, 0);
    }

    private static void joinMakesOneOfTwo() {
        check.sentence(0, "JOIN: two ROOMS become one (the lesser number; DOORS to others, CATS, WISHES, PEOPLE of both are its; "
                + "the other one has no DOORS):");
        AloneRooms people = Check.house("rooms 5;person 1;person 3;law 1;");
        check.due("join(1): people of both", people.join(1), 13);
        AloneRooms cats = Check.house("rooms 5;cat 0;person 3;law 1;");
        check.due("join(1): a cat of the lesser", cats.join(1), 3);
        cats.cat(0, false);
        cats.cat(4, true);
        check.due("join(1): a cat of the other one", cats.join(1), 34);
        AloneRooms doors = Check.house("rooms 5;door 2 4;cat 4;person 0;law 1;wish 0 1 4;");
        check.due("join(1): doors of the other one", doors.join(1), 2);
        AloneRooms wishes = Check.house("rooms 5;cat 0;door 0 1;person 0;law 1;wish 0 1 3;wish 0 2 0;");
        check.due("join(2): wishes of both", wishes.join(2), 3);
        AloneRooms between = Check.house("rooms 3;door 1 2;person 1;person 2;law 1;wish 0 1 1;wish 1 1 2;");
        check.due("join(1): who wish to be apart are together", between.join(1), 12);
        AloneRooms lost = Check.house("rooms 3;door 1 2;person 0;person 0;law 1;wish 0 1 2;wish 1 1 2;");
        check.due("join(1): both through the other one's door, from a room that has none", lost.join(1), 1);
        check.due("least(1, 0): now", lost.least(1, 0), -1);
        AloneRooms third = Check.house("rooms 5;person 0;person 0;person 2;law 1;wish 2 1 4;wish 2 2 4;wish 2 3 4;wish 2 4 4;");
        for (int h = 1; h <= 4; h++) {
            check.due("join(" + h + "): wishes of the last one of three", third.join(h), 24);
        }
        Random random = new Random(26);
        for (int i = 0; i < 300; i++) {
            dueJoined(random);
        }
    }

    /** A drawn house, and each house that it becomes when two of its rooms are told as one. */
    private static void dueJoined(Random random) {
        int n = 2 + random.nextInt(4);
        boolean[][] doors = new boolean[n][n];
        for (int a = 0; a < n; a++) {
            for (int b = a + 1; b < n; b++) {
                doors[a][b] = random.nextInt(5) < 2;
            }
        }
        boolean[] cats = new boolean[n];
        cats[random.nextInt(n)] = random.nextBoolean();
        int[] rooms = new int[1 + random.nextInt(3)];
        int[][] wishes = new int[rooms.length][5];
        for (int p = 0; p < rooms.length; p++) {
            rooms[p] = random.nextInt(n);
            for (int h = 1; h <= 4; h++) {
                wishes[p][h] = random.nextInt(3) == 0 ? random.nextInt(n) : -1;
            }
        }
        int law = random.nextInt(5);
        int h = 1 + random.nextInt(4);
        AloneRooms now = joined(doors, cats, rooms, wishes, law, -1, -1);
        int fewest = now.least(h, 0) == -1 ? HIGHEST : now.least(h, 0);
        int pair = -1;
        for (int a = 0; a < n; a++) {
            for (int b = a + 1; b < n; b++) {
                int least = joined(doors, cats, rooms, wishes, law, a, b).least(h, 0);
                if (least != -1 && least < fewest) {
                    fewest = least;
                    pair = 10 * a + b;
                }
            }
        }
        check.due("join(" + h + ") of a drawn house", now.join(h), pair);
    }

    /** The house in which room b is a part of room a. */
    private static AloneRooms joined(boolean[][] doors, boolean[] cats, int[] rooms, int[][] wishes, int law, int a, int b) {
        AloneRooms x = new AloneRooms();
        x.rooms(doors.length);
        x.law(law);
        for (int c = 0; c < doors.length; c++) {
            for (int d = c + 1; d < doors.length; d++) {
                if (doors[c][d]) {
                    x.door(c == b ? a : c, d == b ? a : d, true);
                }
            }
            if (cats[c]) {
                x.cat(c == b ? a : c, true);
            }
        }
        for (int p = 0; p < rooms.length; p++) {
            x.person(rooms[p] == b ? a : rooms[p]);
            for (int h = 1; h <= 4; h++) {
                int wish = wishes[p][h];
                x.wish(p, h, wish == b ? a : wish);
            }
        }
        return x;
    }

    private static void joinIsFewerThanNow() {
        check.sentence(0, "the pair by which LEAST for H is fewest (NONE of pairs behind all), if that is fewer than now "
                + "(as none can: anything), of like ones the first (lesser, other one); none.");
        AloneRooms fewest = Check.house("rooms 5;door 0 3;cat 3;person 0;law 1;wish 0 1 1;");
        check.due("least(1, 0): none now", fewest.least(1, 0), -1);
        check.due("join(1): not the first that can, the fewest", fewest.join(1), 13);
        fewest.cat(3, false);
        check.due("join(1): of like ones the first", fewest.join(1), 1);
        AloneRooms anything = Check.house("rooms 5;person 3;law 1;wish 0 1 4;wish 0 2 4;wish 0 3 4;wish 0 4 4;");
        for (int h = 1; h <= 4; h++) {
            check.due("join(" + h + "): anything is fewer than none", anything.join(h), 34);
        }
        AloneRooms like = Check.house("rooms 5;person 0;person 1;person 2;law 1;");
        check.due("join(1): of like ones the first", like.join(1), 1);
        like.cat(4, true);
        check.due("join(1): one with the cat, or two together", like.join(1), 1);
        like.door(1, 2, true);
        check.due("join(1): 0 with others", like.join(1), 1);
        like.cat(0, true);
        check.due("join(1): it is nothing now", like.join(1), -1);
        AloneRooms once = Check.house("rooms 2;person 0;person 1;");
        check.due("join(4): ONCE, they stay, nothing is fewer", once.join(4), -1);
    }

    // ---- promises

    private static void promise18HowMany() {
        check.sentence(18, "A BEAT behind THE PLAN: how many.");
        AloneRooms x = new AloneRooms();
        check.due("plan(0) of nobody", x.plan(0), 1);
        x.person(4);
        check.due("plan(4)", x.plan(4), 2);
        check.due("plan(0)", x.plan(0), 3);
        check.due("digest(): as told, one behind another", x.digest(), Check.digestOf(5, 1, 0, 0, 0, 3, 0, 0, 0, 4,
                0, -1, -1, -1, -1, 0, 0, 0, 0, 0, 0, 0, 0, 0, 0, 0, 0, 0, 0, 0, 0, 0, 0, 0, 0, 0, 4, 0));
    }

    private static void promise18Bad() {
        check.sentence(18, "BAD;");
        for (int standing : new int[] {-1, 5, 7, 4096, LOWEST, HIGHEST}) {
            bad("plan(" + standing + ")", x -> x.plan(standing), -2);
        }
        Twins.fresh(check).dueRefused("plan(1) of nobody", x -> x.plan(1), -2, Twins.BAD);
        Twins.some(check).dueRefused("plan to room 4 of four", x -> x.plan(Check.at(0, 4, 0)), -2, Twins.BAD)
                .dueRefused("plan of one too many", x -> x.plan(Check.at(0, 0, 0, 1)), -2, Twins.BAD);
    }

    private static void promise18FullOfEight() {
        check.sentence(18, "FULL: 8.");
        Twins.full(check).dueRefused("plan(0)", x -> x.plan(0), -4, Twins.FULL);
        AloneRooms x = new AloneRooms();
        for (int i = 1; i <= 8; i++) {
            check.due("plan(0)", x.plan(0), i);
        }
        check.due("plan(0) of a ninth", x.plan(0), -4);
        check.due("count(5)", x.count(5), 8);
    }

    private static void promise19HowManyItHad() {
        check.sentence(19, "THE PLAN is empty: how many it had.");
        AloneRooms x = new AloneRooms();
        check.due("scrap() of none", x.scrap(), 0);
        for (int many : new int[] {1, 8}) {
            for (int i = 0; i < many; i++) {
                x.plan(0);
            }
            check.due("scrap()", x.scrap(), many);
            check.due("count(5)", x.count(5), 0);
            check.due("scrap() again", x.scrap(), 0);
        }
        check.due("digest()", x.digest(), new AloneRooms().digest());
        check.due("plan(0): there is room again", x.plan(0), 1);
        Twins.fresh(check).dueAsked("scrap() of none", y -> y.scrap(), 0);
    }

    private static void promise20Judge() {
        check.sentence(20, "JUDGE.");
        Twins.full(check).dueAsked("judge(): the first", x -> x.judge(), 0);
        Twins.someThen(check, x -> x.plan(Check.at(3, 3, 3))).dueAsked("judge()", x -> x.judge(), 0);
        AloneRooms x = Check.house("rooms 2;person 0;");
        for (int i = 0; i < 7; i++) {
            x.plan(0);
        }
        x.plan(1);
        check.due("judge(): the eighth", x.judge(), 7);
    }

    private static void promise20None() {
        check.sentence(20, "NONE.");
        Twins.fresh(check).dueAsked("judge() of an empty one", x -> x.judge(), -1);
        AloneRooms x = Check.house("rooms 2;door 0 1;person 0;");
        for (int i = 0; i < 8; i++) {
            x.plan(i % 2);
        }
        check.due("judge() of eight", x.judge(), -1);
        check.dueStatus(x, 0, 0, 0);
    }

    private static void promise21Cost() {
        check.sentence(21, "COST by a LAW.");
        for (int law = 0; law < 5; law++) {
            int kind = law;
            Twins.fresh(check).dueAsked("cost(" + law + ")", x -> x.cost(kind), 0);
        }
        Twins.someThen(check, x -> {
            x.scrap();
            for (int i = 0; i < 8; i++) {
                x.plan(x.standing());
            }
        }).dueAsked("cost(0)", x -> x.cost(0), 0).dueAsked("cost(1)", x -> x.cost(1), 16)
                .dueAsked("cost(2)", x -> x.cost(2), 0).dueAsked("cost(3)", x -> x.cost(3), 8)
                .dueAsked("cost(4)", x -> x.cost(4), 0);
    }

    private static void promise21Bad() {
        check.sentence(21, "BAD;");
        for (int law : new int[] {5, -1, LOWEST, HIGHEST}) {
            bad("cost(" + law + ")", x -> x.cost(law), -2);
        }
    }

    private static void promise21NoItCanNotBe() {
        check.sentence(21, "NO: it can not be.");
        for (int law = 0; law < 5; law++) {
            int kind = law;
            Twins.full(check).dueRefused("cost(" + law + ")", x -> x.cost(kind), -3, Twins.NO);
        }
        AloneRooms x = Check.house("rooms 2;person 0;");
        for (int i = 0; i < 7; i++) {
            x.plan(0);
            check.due("cost(0)", x.cost(0), 0);
        }
        x.plan(1);
        check.due("cost(0): the eighth can not be", x.cost(0), -3);
    }

    private static void promise22Least() {
        check.sentence(22, "LEAST for H: how much (beat = 0); the STANDING behind a BEAT (1 .. H) of it.");
        AloneRooms x = Check.house(ROW + "person 0;person 2;law 1;");
        dueRow(x, 1, 0, Check.at(1, 1));
        dueRow(x, 2, 0, Check.at(1, 1), Check.at(0, 0));
        dueRow(x, 3, 0, Check.at(1, 1), Check.at(0, 0), Check.at(0, 0));
        dueRow(x, 4, 0, Check.at(1, 1), Check.at(0, 0), Check.at(0, 0), Check.at(0, 0));
        dueRow(new AloneRooms(), 4, 0, 0, 0, 0, 0);
        AloneRooms hermits = Check.house("rooms 5;person 0;person 1;person 3;person 4;law 1;");
        int stay = hermits.standing();
        dueRow(hermits, 4, 16, stay, stay, stay, stay);
        for (int h = 1; h <= 4; h++) {
            int beats = h;
            unchanged("least(" + h + ", 0)", y -> y.least(beats, 0));
            unchanged("least(" + h + ", " + h + ")", y -> y.least(beats, beats));
        }
    }

    private static void promise22None() {
        check.sentence(22, "NONE.");
        for (int h = 1; h <= 4; h++) {
            for (int beat = 0; beat <= h; beat++) {
                int beats = h;
                int at = beat;
                Twins.someThen(check, x -> x.wish(0, 1, 3))
                        .dueAsked("least(" + h + ", " + beat + ")", x -> x.least(beats, at), -1);
            }
        }
    }

    private static void promise22Bad() {
        check.sentence(22, "BAD.");
        for (int h : new int[] {0, 5, -1, LOWEST, HIGHEST}) {
            bad("least(" + h + ", 0)", x -> x.least(h, 0), -2);
            bad("least(" + h + ", 1)", x -> x.least(h, 1), -2);
            bad("least(" + h + ", " + h + ")", x -> x.least(h, h), -2);
        }
        for (int h = 1; h <= 4; h++) {
            int beats = h;
            for (int beat : new int[] {h + 1, -1, LOWEST, HIGHEST}) {
                bad("least(" + h + ", " + beat + ")", x -> x.least(beats, beat), -2);
            }
        }
        Twins.someThen(check, x -> x.wish(0, 1, 3)).dueRefused("least(2, 3): BAD, not NONE", x -> x.least(2, 3), -2, Twins.BAD);
    }

    private static void promise23Fewest() {
        check.sentence(23, "FEWEST.");
        Twins.fresh(check).dueAsked("fewest(0) of nobody", x -> x.fewest(0), 0);
        Twins.some(check).dueAsked("fewest: here", x -> x.fewest(Check.at(0, 1, 3)), 0);
        Twins.full(check).dueAsked("fewest: here", x -> x.fewest(Check.at(0, 1, 2, 3)), 0);
        unchanged("fewest(0)", x -> x.fewest(0));
        unchanged("fewest(standing)", x -> x.fewest(x.standing()));
    }

    private static void promise23None() {
        check.sentence(23, "NONE.");
        Twins.someThen(check, x -> x.door(0, 1, false)).dueAsked("fewest: no way", x -> x.fewest(0), -1);
        AloneRooms x = Check.house("rooms 2;door 0 1;person 0;");
        check.due("fewest(1): by no way without laying", x.fewest(1), -1);
        x.law(3);
        check.due("fewest(1): an odd beat is the next", x.fewest(1), -1);
        x.beat(0);
        check.due("fewest(1): an even beat is the next", x.fewest(1), 1);
        check.dueStatus(x, 0, 0, 0);
    }

    private static void promise23Bad() {
        check.sentence(23, "BAD.");
        for (int standing : new int[] {-1, 5, 7, 4096, LOWEST, HIGHEST}) {
            bad("fewest(" + standing + ")", x -> x.fewest(standing), -2);
        }
        Twins.fresh(check).dueRefused("fewest(1) of nobody", x -> x.fewest(1), -2, Twins.BAD);
        Twins.some(check).dueRefused("fewest to room 4 of four", x -> x.fewest(Check.at(0, 4, 0)), -2, Twins.BAD)
                .dueRefused("fewest of one too many", x -> x.fewest(Check.at(0, 0, 0, 1)), -2, Twins.BAD);
    }

    private static void promise24Quiet() {
        check.sentence(24, "QUIET.");
        Twins.fresh(check).dueAsked("quiet() of nobody", x -> x.quiet(), 1);
        Twins.some(check).dueAsked("quiet()", x -> x.quiet(), quiet(4, 3, 1));
        Twins.full(check).dueAsked("quiet()", x -> x.quiet(), quiet(5, 4, 0));
    }

    private static void promise25Picks() {
        check.sentence(25, "PICKS: how much (i = NONE), the i-th ROOM of the row (0 on).");
        for (int l = 0; l <= 6; l++) {
            int steps = l;
            unchanged("picks(1, " + l + ", NONE)", x -> x.picks(1, steps, -1));
            unchanged("picks(1, " + l + ", " + l + ")", x -> x.picks(1, steps, steps));
        }
        AloneRooms x = Check.house(ROW + "sill 0 1;sill 4 1;");
        duePicks(x, 2, 6, 2, 2, 1, 0, 1, 2, 3, 4);
    }

    private static void promise25NotSoMany() {
        check.sentence(25, "-5: not so many.");
        AloneRooms x = Check.house(ROW + "sill 0 1;sill 4 1;");
        for (int i : new int[] {7, 8, 100, HIGHEST}) {
            check.due("picks(2, 6, " + i + ")", x.picks(2, 6, i), -5);
        }
        check.due("picks(2, 0, 1)", x.picks(2, 0, 1), -5);
        check.due("picks(0, 1, 1): nothing more to take", x.picks(0, 1, 1), -5);
        check.dueStatus(x, 0, 0, 0);
        Twins.some(check).dueAsked("picks(1, 0, 1)", y -> y.picks(1, 0, 1), -5);
    }

    private static void promise25Bad() {
        check.sentence(25, "BAD: -10.");
        for (int room : new int[] {5, -1, 8, LOWEST, HIGHEST}) {
            bad("picks(" + room + ", 0, NONE)", x -> x.picks(room, 0, -1), -10);
            bad("picks(" + room + ", 0, 9)", x -> x.picks(room, 0, 9), -10);
        }
        for (int l : new int[] {7, -1, LOWEST, HIGHEST}) {
            bad("picks(0, " + l + ", NONE)", x -> x.picks(0, l, -1), -10);
            bad("picks(0, " + l + ", 9)", x -> x.picks(0, l, 9), -10);
        }
        for (int i : new int[] {-2, -5, LOWEST}) {
            bad("picks(0, 0, " + i + ")", x -> x.picks(0, 0, i), -10);
        }
        Twins.some(check).dueRefused("picks(4, 0, 0)", x -> x.picks(4, 0, 0), -10, Twins.BAD);
    }

    private static void promise26Join() {
        check.sentence(26, "JOIN: 10 times the lesser and the other one.");
        for (int a = 0; a < 5; a++) {
            for (int b = 0; b < 5; b++) {
                if (a != b) {
                    AloneRooms x = Check.house("rooms 5;person " + a + ";person " + b + ";law 1;");
                    check.due("join(1) of " + a + " and " + b, x.join(1), 10 * Math.min(a, b) + Math.max(a, b));
                }
            }
        }
        for (int h = 1; h <= 4; h++) {
            int beats = h;
            Twins.fresh(check).dueUnchanged("join(" + h + ")", x -> x.join(beats));
            Twins.some(check).dueUnchanged("join(" + h + ")", x -> x.join(beats));
        }
    }

    private static void promise26None() {
        check.sentence(26, "NONE.");
        for (int h = 1; h <= 4; h++) {
            check.due("join(" + h + ") of nobody", new AloneRooms().join(h), -1);
            check.due("join(" + h + ") of one room", Check.house("rooms 1;person 0;law 1;").join(h), -1);
            check.due("join(" + h + ") of two together", Check.house("rooms 5;person 0;person 0;law 1;").join(h), -1);
            check.due("join(" + h + ") of a hermit", Check.house("rooms 5;person 2;law 1;").join(h), -1);
        }
    }

    private static void promise26Bad() {
        check.sentence(26, "BAD;");
        for (int h : new int[] {0, 5, -1, LOWEST, HIGHEST}) {
            bad("join(" + h + ")", x -> x.join(h), -2);
        }
    }

    private static void promise26NoThereAreFour() {
        check.sentence(26, "NO: there are 4 PEOPLE.");
        for (int h = 1; h <= 4; h++) {
            int beats = h;
            Twins.full(check).dueRefused("join(" + h + ")", x -> x.join(beats), -3, Twins.NO);
        }
        AloneRooms x = Check.house("rooms 5;person 0;person 1;person 1;law 1;");
        check.due("join(1) of three", x.join(1), 1);
        x.person(1);
        check.due("join(1) of four", x.join(1), -3);
    }
}
