/** What the tests of the project share: answers that are due, and how to type a text. */
final class Check {
    private final String test;
    private int asked;
    private int wrong;
    /** The document's words that are looked at, told with each answer that is not as due. */
    private String words = "";

    Check(String test) {
        this.test = test;
    }

    /** The answers that follow are due by these words of a promise, or of the terms (0). DocumentTest reads these calls. */
    void sentence(int promise, String words) {
        this.words = (promise == 0 ? " (terms: " : " (promise " + promise + ": ") + words + ")";
    }

    void due(String call, long got, long want) {
        asked++;
        if (got != want) {
            wrong++;
            System.out.println(test + ": " + call + " answered " + got + ", due is " + want + words);
        }
    }

    /** The three counts of what was refused. */
    void dueStatus(AloneRooms x, int bad, int no, int full) {
        due("status(0)", x.status(0), bad);
        due("status(1)", x.status(1), no);
        due("status(2)", x.status(2), full);
    }

    /** The sills of the rooms 0 on. */
    void dueSills(AloneRooms x, int... pennies) {
        for (int r = 0; r < pennies.length; r++) {
            due("sill(" + r + ")", x.sill(r), pennies[r]);
        }
    }

    /** The purses of people 0 on. */
    void duePurses(AloneRooms x, int... pennies) {
        for (int p = 0; p < pennies.length; p++) {
            due("purse(" + p + ")", x.purse(p), pennies[p]);
        }
    }

    void end() {
        System.out.println(test + ": " + asked + " answers, " + wrong + " not as due");
        if (wrong != 0) {
            System.exit(1);
        }
    }

    /** Types a text behind what is there. */
    static void type(AloneRooms x, String text) {
        for (int at = 0; at < text.length(); at += 8) {
            int n = Math.min(8, text.length() - at);
            long v = 0;
            for (int i = 0; i < n; i++) {
                v = v << 8 | text.charAt(at + i) & 255;
            }
            x.type(v, n);
        }
    }

    /** A new house told by a text, the text cleared again. */
    static AloneRooms house(String text) {
        AloneRooms x = new AloneRooms();
        type(x, text);
        int read = x.read();
        if (read < 0) {
            throw new IllegalStateException(text + " answered " + read);
        }
        x.clear();
        return x;
    }

    /** The standing of people in rooms, person 0 first. */
    static int at(int... rooms) {
        int standing = 0;
        for (int p = rooms.length - 1; p >= 0; p--) {
            standing = standing * 8 + rooms[p];
        }
        return standing;
    }

    /** A digest, by the document's words. */
    static long digestOf(long... values) {
        long h = 757;
        for (long v : values) {
            h = 31 * h + v;
        }
        return h;
    }
}
