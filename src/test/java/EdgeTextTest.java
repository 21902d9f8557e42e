/** Boundaries of the text and of the house that it tells: promises 9 to 11, and their terms. */
public final class EdgeTextTest {
    private static final Check check = new Check("EdgeTextTest");
    private static final int LOWEST = Integer.MIN_VALUE, HIGHEST = Integer.MAX_VALUE;
    private static final String[] WORDS = {"rooms", "door", "cat", "sill", "person", "wish", "law"};
    /** A whole item of each word behind rooms 5, and with one of people there. */
    private static final String[] ITEMS = {"door 0 1;", "cat 0;", "sill 0 1;", "person 0;", "wish 0 1 0;", "law 0;"};
    private static final String HEAD = "rooms 5;person 0;";

    public static void main(String[] args) {
        twoHundredBytesAtMost();
        eachItemIsEnded();
        itemRooms();
        itemDoor();
        itemCat();
        itemSill();
        itemPerson();
        itemWish();
        itemLaw();
        tokensAreWordsFiguresStops();
        faultIsTheFirstTokenThatCanNotStand();
        faultAWordThatIsNone();
        faultRoomsAgain();
        faultAnythingAheadOfRooms();
        faultAFifthPerson();
        faultAFourthFigure();
        faultANumberNotAsTold();
        faultBLikeA();
        faultOneWhoIsNotThereYet();
        faultAByteThatBeginsNone();
        faultTheTextEndsTooEarly();
        aHouseThatIsReadTakesThePlaceOfAll();
        promise9TheLowestBytes();
        promise9Bad();
        promise9Full();
        promise10HowManyItHad();
        promise11HowManyPeople();
        promise11AFaultLeavesAll();
        check.end();
    }

    private static AloneRooms typed(String text) {
        AloneRooms x = new AloneRooms();
        Check.type(x, text);
        check.due("count(7) of '" + text + "'", x.count(7), text.length());
        return x;
    }

    private static AloneRooms dueRead(String text, int people) {
        AloneRooms x = typed(text);
        check.due("read() of '" + text + "'", x.read(), people);
        return x;
    }

    private static void dueFault(String text, int fault) {
        AloneRooms x = typed(text);
        check.due("read() of '" + text + "'", x.read(), -10 - fault);
        check.due("count(0) behind the fault of '" + text + "'", x.count(0), 5);
        check.dueStatus(x, 0, 0, 0);
    }

    /** The fault is where the second part of the text begins. */
    private static void dueFault(String ahead, String from) {
        dueFault(ahead + from, ahead.length());
    }

    private static String filled(String text, int length) {
        return text + " ".repeat(length - text.length());
    }

    // ---- terms

    private static void twoHundredBytesAtMost() {
        check.sentence(0, "THE HOUSE is a TEXT (200 bytes at most)");
        AloneRooms x = dueRead(filled("rooms 2;person 1;", 199) + " ", 1);
        check.due("type(59, 1) behind 200 bytes", x.type(59, 1), -4);
        AloneRooms last = dueRead(filled("rooms 2;", 193) + "cat 1 ;", 0);
        check.due("count(3): the 200th byte ends an item", last.count(3), 1);
        AloneRooms first = dueRead(filled("", 190) + "rooms   4;", 0);
        check.due("count(0): 190 blanks ahead", first.count(0), 4);
        dueFault(filled("rooms 2;", 199) + "!", 199);
    }

    private static void eachItemIsEnded() {
        check.sentence(0, "of ITEMS, each ended by ; :");
        dueFault("rooms 5", "");
        dueFault("rooms 5 ", "person 0;");
        for (String item : ITEMS) {
            String open = item.substring(0, item.length() - 1);
            dueRead(HEAD + item, item.startsWith("person") ? 2 : 1);
            dueFault(HEAD + open, "");
            dueFault(HEAD + open + " ", "law 0;");
            dueFault(HEAD + open + " ", "0;");
            dueFault(HEAD + item, ";");
        }
    }

    private static void itemRooms() {
        check.sentence(0, "rooms n (once, first of all);");
        for (int n = 1; n <= 5; n++) {
            AloneRooms x = dueRead("rooms " + n + ";", 0);
            check.due("count(0)", x.count(0), n);
            check.due("its last sill", x.sill(n - 1), 0);
            check.due("no sill beyond", x.sill(n), -2);
        }
        dueFault("rooms ", "0;");
        dueFault("rooms ", "6;");
        dueFault("law 0;rooms 5;", 0);
        dueFault("rooms 5;", "rooms 5;");
    }

    private static void itemDoor() {
        check.sentence(0, "door a b;");
        AloneRooms x = dueRead("rooms 5;door 0 4;door 4 3;", 0);
        check.due("count(2)", x.count(2), 2);
        check.due("door(4, 0, true): it is so", x.door(4, 0, true), -3);
        check.due("door(3, 4, true): it is so", x.door(3, 4, true), -3);
        dueFault("rooms 5;door ", "5 0;");
        dueFault("rooms 5;door 0 ", "5;");
        dueFault("rooms 5;door 0", ";");
        dueFault("rooms 5;door 0 1 ", "2;");
        dueFault("rooms 1;door 0 ", "1;");
    }

    private static void itemCat() {
        check.sentence(0, "cat r;");
        AloneRooms x = dueRead("rooms 5;cat 0;cat 4;", 0);
        check.due("count(3)", x.count(3), 2);
        check.due("cat(0, true): it is so", x.cat(0, true), -3);
        check.due("cat(4, true): it is so", x.cat(4, true), -3);
        dueFault("rooms 5;cat ", "5;");
        dueFault("rooms 5;cat", ";");
        dueFault("rooms 5;cat 0 ", "0;");
        dueFault("rooms 1;cat ", "1;");
    }

    private static void itemSill() {
        check.sentence(0, "sill r v;");
        AloneRooms x = dueRead("rooms 5;sill 0 999;sill 4 1;sill 3 0;", 0);
        check.dueSills(x, 999, 0, 0, 0, 1);
        dueFault("rooms 5;sill ", "5 0;");
        dueFault("rooms 5;sill 0 ", "1000;");
        dueFault("rooms 5;sill 0", ";");
        dueFault("rooms 5;sill 0 1 ", "1;");
        dueFault("rooms 1;sill ", "1 0;");
    }

    private static void itemPerson() {
        check.sentence(0, "person r;");
        AloneRooms x = dueRead("rooms 5;person 0;person 4;", 2);
        check.due("standing()", x.standing(), 32);
        check.duePurses(x, 0, 0, -100000);
        dueFault("rooms 5;person ", "5;");
        dueFault("rooms 5;person", ";");
        dueFault("rooms 5;person 0 ", "0;");
        dueFault("rooms 1;person ", "1;");
    }

    private static void itemWish() {
        check.sentence(0, "wish p h r;");
        AloneRooms x = dueRead("rooms 5;person 0;person 0;person 0;person 0;wish 0 1 0;wish 3 4 4;", 4);
        check.due("wish(0, 1, ..)", x.wish(0, 1, -1), 0);
        check.due("wish(3, 4, ..)", x.wish(3, 4, -1), 4);
        check.due("wish(0, 4, ..)", x.wish(0, 4, -1), -1);
        dueFault(HEAD + "wish ", "1 1 0;");
        dueFault(HEAD + "wish 0 ", "0 0;");
        dueFault(HEAD + "wish 0 ", "5 0;");
        dueFault(HEAD + "wish 0 1 ", "5;");
        dueFault(HEAD + "wish 0 1", ";");
        dueFault(HEAD + "wish 0 1 0 ", "0;");
        dueFault("rooms 1;person 0;wish 0 4 ", "1;");
    }

    private static void itemLaw() {
        check.sentence(0, "law k.");
        for (int k = 0; k <= 4; k++) {
            AloneRooms x = dueRead("rooms 1;law " + k + ";", 0);
            check.due("law(0): what it was", x.law(0), k);
        }
        dueFault("rooms 5;law ", "5;");
        dueFault("rooms 5;law", ";");
        dueFault("rooms 5;law 0 ", "0;");
    }

    private static void tokensAreWordsFiguresStops() {
        check.sentence(0, "TOKENS: words of letters a .. z, figures (1 to 3 are one number), ; ; blanks (32) between.");
        AloneRooms x = dueRead("  rooms  05  ;  sill  000  099  ;  sill 1 009;  person  004  ;  ", 1);
        check.dueSills(x, 99, 9, 0, 0, 0);
        check.due("standing()", x.standing(), 4);
        dueFault("rooms 5;door ", "12;");
        dueFault("rooms 5;door 1", ";");
        for (int notBlank : new int[] {0, 9, 10, 13, 31, 33, 160}) {
            dueFault("rooms", (char) notBlank + "5;");
            dueFault("rooms 5;cat 1", (char) notBlank + ";");
        }
        dueFault("roo", 0);
        dueFault("rooms 5;c", 8);
        dueFault("r ooms 5;", 0);
        dueFault("Rooms 5;", 0);
        dueFault("rooms 5;", "CAT 1;");
    }

    private static void faultIsTheFirstTokenThatCanNotStand() {
        check.sentence(0, "FAULT: the place of the first byte of the first TOKEN that can not stand there");
        dueFault("rooms 5;cat ", "9;cat 9;rat;!");
        dueFault("   ", "cat");
        dueFault("rooms   ", "cat 1;!");
        dueFault("rooms 5 ", "cat 1;");
        dueFault("rooms 5;   ", "cats;");
        dueFault("rooms 5;cat 1;   ", "!");
        dueFault("rooms 5;door 0     ", "0 9999 !");
        dueFault("rooms 5;sill ", "person 0;");
    }

    private static void faultAWordThatIsNone() {
        check.sentence(0, "(a word that is none,");
        for (String word : WORDS) {
            String cut = word.substring(0, word.length() - 1);
            dueFault(HEAD, cut + " 0;");
            dueFault(HEAD, word + "s 0;");
            dueFault(HEAD, "a" + word + " 0;");
            dueFault(HEAD, cut + "z 0;");
            dueFault(HEAD, "z" + word.substring(1) + " 0;");
        }
        dueFault("", "room 5;");
        dueFault(" ", "roomss 5;");
        dueFault("rooms ", "five;");
        dueFault("rooms 5 ", "x;");
        dueFault(HEAD, "z;");
        dueFault(HEAD, "abcdefghijklmnopqrstuvwxyz;");
    }

    private static void faultRoomsAgain() {
        check.sentence(0, "rooms again,");
        dueFault("rooms 5;", "rooms 5;");
        dueFault("rooms 5; ", "rooms");
        dueFault("rooms 5;cat 1;person 0;", "rooms 3;");
        dueFault("rooms ", "rooms 5;");
        dueFault("rooms 5 ", "rooms 5;");
    }

    private static void faultAnythingAheadOfRooms() {
        check.sentence(0, "anything ahead of it,");
        for (String item : ITEMS) {
            dueFault("", item + "rooms 5;");
            dueFault("  ", item + "rooms 5;");
        }
        dueFault("", ";rooms 5;");
        dueFault(" ", ";");
        dueFault("", "5;rooms 5;");
        dueFault("", "!rooms 5;");
    }

    private static void faultAFifthPerson() {
        check.sentence(0, "a 5th person at its word,");
        String four = "rooms 2;person 0;person 1;person 1;person 0;";
        AloneRooms x = dueRead(four + "cat 1;", 4);
        check.due("standing()", x.standing(), 8 + 64);
        dueFault(four, "person 0;");
        dueFault(four + "law 1;  ", "person 9;");
        dueFault(four, "person");
        dueFault(four, "person;");
    }

    private static void faultAFourthFigure() {
        check.sentence(0, "a fourth figure's number,");
        dueFault("rooms ", "0005;");
        dueFault("rooms ", "5000;");
        dueFault(HEAD + "door ", "0001 2;");
        dueFault(HEAD + "door 1 ", "0002;");
        dueFault(HEAD + "cat ", "0001;");
        dueFault(HEAD + "sill ", "0001 1;");
        dueFault(HEAD + "sill 1 ", "0001;");
        dueFault(HEAD + "sill 1 ", "1000;");
        dueFault(HEAD + "sill 1 ", "12345678901234567890;");
        dueFault(HEAD + "person ", "0001;");
        dueFault(HEAD + "wish ", "0000 1 1;");
        dueFault(HEAD + "wish 0 ", "0001 1;");
        dueFault(HEAD + "wish 0 1 ", "0001;");
        dueFault(HEAD + "law ", "0001;");
        dueFault(HEAD + "law 1 ", "0001;");
        dueFault(HEAD, "0001;");
        AloneRooms x = dueRead(HEAD + "sill 001 999;cat 004;", 1);
        check.dueSills(x, 0, 999, 0, 0, 0);
        check.due("count(3): three figures are fine", x.count(3), 1);
    }

    private static void faultANumberNotAsTold() {
        check.sentence(0, "a number not as told,");
        for (String n : new String[] {"0", "6", "10", "999", "00", "006"}) {
            dueFault("rooms ", n + ";");
        }
        for (int n = 1; n <= 5; n++) {
            String head = "rooms " + n + ";person 0;";
            for (String r : new String[] {"" + n, "10", "999"}) {
                dueFault(head + "door ", r + " 0;");
                dueFault(head + "door 0 ", r + ";");
                dueFault(head + "cat ", r + ";");
                dueFault(head + "sill ", r + " 0;");
                dueFault(head + "person ", r + ";");
                dueFault(head + "wish 0 1 ", r + ";");
            }
        }
        for (String h : new String[] {"0", "5", "10", "999"}) {
            dueFault(HEAD + "wish 0 ", h + " 0;");
        }
        for (String k : new String[] {"5", "10", "999"}) {
            dueFault(HEAD + "law ", k + ";");
        }
        dueFault(HEAD + "cat ", "-1;");
        dueFault(HEAD + "cat ", "+1;");
    }

    private static void faultBLikeA() {
        check.sentence(0, "also b like a,");
        for (int r = 0; r < 5; r++) {
            dueFault("rooms 5;door " + r + " ", r + ";");
            dueFault("rooms 5;door " + r + "   ", "00" + r + ";");
        }
        dueFault("rooms 1;door 0 ", "0;");
        dueFault("rooms 5;door ", "5 5;");
    }

    private static void faultOneWhoIsNotThereYet() {
        check.sentence(0, "one of PEOPLE that is not there yet,");
        dueFault("rooms 5;wish ", "0 1 0;");
        dueFault("rooms 5;wish ", "0 1 0;person 0;");
        String people = "rooms 5;";
        for (int p = 0; p < 4; p++) {
            dueFault(people + "wish ", p + " 1 0;");
            people += "person 4;";
            dueRead(people + "wish " + p + " 1 0;", p + 1);
        }
        dueFault(people + "wish ", "4 1 0;");
        dueFault(people + "wish ", "999 9 9;");
    }

    private static void faultAByteThatBeginsNone() {
        check.sentence(0, "a byte that begins none, too);");
        for (int b = 0; b < 256; b++) {
            boolean letter = b >= 'a' && b <= 'z';
            boolean figure = b >= '0' && b <= '9';
            if (letter || figure || b == ';' || b == ' ') {
                continue;
            }
            char none = (char) b;
            dueFault("", none + "rooms 5;");
            dueFault("rooms ", none + ";");
            dueFault("rooms 5", none + ";");
            dueFault("rooms 5;", none + "cat 1;");
            dueFault("rooms 5;cat", none + "1;");
            dueFault("rooms 5;cat 1;", "" + none);
        }
    }

    private static void faultTheTextEndsTooEarly() {
        check.sentence(0, "the TEXT's length, if it ends too early (an empty one, too).");
        dueFault("", 0);
        dueFault(" ", 1);
        dueFault(" ".repeat(200), 200);
        dueFault("rooms", 5);
        dueFault("rooms 5", 7);
        dueFault("rooms 5   ", 10);
        String full = "rooms 5;";
        for (String item : new String[] {"person 1;", "door 2 3;", "cat 4;", "sill 1 999;", "wish 0 4 2;", "law 3;"}) {
            dueRead(full, full.contains("person") ? 1 : 0);
            dueEveryCut(full, item);
            full += item;
        }
        dueFault(filled("rooms 5;cat", 200), 200);
        dueFault(filled("rooms 5;", 195) + "cat 1", 200);
        AloneRooms x = typed("rooms 5;cat 1;");
        x.clear();
        Check.type(x, "rooms 5");
        check.due("read(): what was there ahead of clear() is no part", x.read(), -10 - 7);
    }

    /** The item is cut behind its word, and behind each figure and blank. */
    private static void dueEveryCut(String ahead, String item) {
        for (int cut = item.indexOf(' '); cut < item.length(); cut++) {
            String text = ahead + item.substring(0, cut);
            dueFault(text, text.length());
        }
    }

    private static void aHouseThatIsReadTakesThePlaceOfAll() {
        check.sentence(0, "A HOUSE that is read takes the place of all but IMAGES, THE TEXT, STATUS (what is not told is as at first).");
        AloneRooms x = Check.house("rooms 4;door 0 1;cat 2;sill 1 9;person 0;person 1;person 2;wish 0 1 1;wish 2 4 3;law 3;");
        x.image(1);
        long image = x.digest();
        x.spy(3, 7);
        x.plan(0);
        x.beat(x.standing());
        x.rooms(9);
        x.undo();
        x.undo();
        x.beat(x.standing());
        Check.type(x, "rooms 5;");
        check.due("read()", x.read(), 0);
        check.due("digest()", x.digest(), Check.digestOf(5, 0, 0, 0, 0, 0, 0, 8, 0, 0,
                0, 0, 0, 0, 0, 0, 0, 0, 0, 0, 0, 0, 0, 0, 0, 0, 0, 0, 0, 0));
        check.due("undo()", x.undo(), -3);
        check.dueStatus(x, 1, 2, 0);
        check.due("read() once more: the text stays", x.read(), 0);
        for (int p = 0; p < 4; p++) {
            x.person(0);
            check.due("purse(" + p + ")", x.purse(p), 0);
            check.due("wish(" + p + ", 1, ..)", x.wish(p, 1, -1), -1);
            check.due("wish(" + p + ", 4, ..)", x.wish(p, 4, -1), -1);
        }
        x.clear();
        check.due("from(0): none was kept", x.from(0), -3);
        check.due("from(1)", x.from(1), 1);
        check.due("digest() of the image", x.digest(), image);
    }

    // ---- promises

    private static void promise9TheLowestBytes() {
        check.sentence(9, "The lowest n (1 .. 8) bytes of v, the highest of them first, come to THE TEXT: how many it has.");
        long text = 0x726f6f6d7320323bL;
        for (int n = 1; n <= 8; n++) {
            AloneRooms x = new AloneRooms();
            int at = 0;
            while (at < 8) {
                int many = Math.min(n, 8 - at);
                long bytes = text >>> 8 * (8 - at - many);
                at += many;
                check.due("type by " + n, x.type(bytes, many), at);
            }
            check.due("read() typed by " + n, x.read(), 0);
            check.due("count(0) typed by " + n, x.count(0), 2);
        }
        for (int n = 1; n < 8; n++) {
            AloneRooms x = new AloneRooms();
            Check.type(x, "rooms 3;".substring(0, 8 - n));
            long low = 0x726f6f6d7320333bL & (1L << 8 * n) - 1;
            check.due("type: higher bytes do not come", x.type(-1L << 8 * n | low, n), 8);
            check.due("read()", x.read(), 0);
            check.due("count(0)", x.count(0), 3);
        }
        AloneRooms x = new AloneRooms();
        check.due("type(LOWEST, 8)", x.type(Long.MIN_VALUE, 8), 8);
        check.due("read(): 128 begins none", x.read(), -10);
        check.due("type(0, 1)", x.type(0, 1), 9);
    }

    private static void promise9Bad() {
        check.sentence(9, "BAD;");
        for (int n : new int[] {0, 9, -1, 256 + 8, LOWEST, HIGHEST}) {
            Twins.fresh(check).dueRefused("type(59, " + n + ")", x -> x.type(59, n), -2, Twins.BAD);
            Twins.some(check).dueRefused("type(59, " + n + ")", x -> x.type(59, n), -2, Twins.BAD);
            Twins.full(check).dueRefused("type(59, " + n + ")", x -> x.type(59, n), -2, Twins.BAD);
        }
    }

    private static void promise9Full() {
        check.sentence(9, "FULL.");
        Twins.full(check).dueRefused("type(59, 1)", x -> x.type(59, 1), -4, Twins.FULL)
                .dueRefused("type(59, 8)", x -> x.type(59, 8), -4, Twins.FULL);
        for (int room = 1; room <= 8; room++) {
            AloneRooms x = typed(filled("rooms 3;", 200 - room));
            if (room < 8) {
                check.due("type, one byte too many", x.type(0x3b3b3b3b3b3b3b3bL, room + 1), -4);
                check.due("type, eight bytes", x.type(0x3b3b3b3b3b3b3b3bL, 8), -4);
            }
            check.due("count(7)", x.count(7), 200 - room);
            check.due("read(): nothing of it came", x.read(), 0);
            check.due("type, as many as there is room for", x.type(0x2020202020202020L, room), 200);
            check.due("type, one more", x.type(32, 1), -4);
            check.dueStatus(x, 0, 0, room < 8 ? 3 : 1);
        }
    }

    private static void promise10HowManyItHad() {
        check.sentence(10, "THE TEXT is empty: how many it had.");
        AloneRooms x = new AloneRooms();
        check.due("clear() of an empty one", x.clear(), 0);
        Check.type(x, "r");
        check.due("clear()", x.clear(), 1);
        check.due("clear()", x.clear(), 0);
        Check.type(x, " ".repeat(200));
        check.due("clear() of a full one", x.clear(), 200);
        check.due("count(7)", x.count(7), 0);
        check.due("read() of an empty one", x.read(), -10);
        check.due("type behind it", x.type(0x726f6f6d7320333bL, 8), 8);
        check.due("read()", x.read(), 0);
        check.due("count(0)", x.count(0), 3);
        check.dueStatus(x, 0, 0, 0);
    }

    private static void promise11HowManyPeople() {
        check.sentence(11, "THE HOUSE is read: how many PEOPLE.");
        String text = "rooms 1;";
        for (int p = 0; p <= 4; p++) {
            AloneRooms x = dueRead(text, p);
            check.due("count(1)", x.count(1), p);
            text += "person 0;";
        }
        Twins.someThen(check, x -> x.read()).dueAsked("read() once more", x -> x.read(), 1);
    }

    private static void promise11AFaultLeavesAll() {
        check.sentence(11, "-10 less the FAULT: all stays.");
        dueAllStays("", 0);
        dueAllStays("cat 1;", 0);
        dueAllStays("rooms 2;person 1;law 1;cat 1;sill 0 5;door 0 1;wish 0 1 1;cat 2;", 62);
        dueAllStays(filled("rooms 2;person 1;", 195) + "law 1", 200);
        dueAllStays(filled("rooms 2;person 1;", 199) + "x", 199);
    }

    private static void dueAllStays(String text, int fault) {
        Twins.someThen(check, x -> {
            x.clear();
            Check.type(x, text);
        }).dueAsked("read() of '" + text + "'", x -> x.read(), -10 - fault);
    }
}
