import java.util.Random;

/** Runs of calls drawn by fixed seeds, each answered as the Model answers it. */
public final class RandomRunsTest {
    private static final Check check = new Check("RandomRunsTest");
    private static final String[] WORDS = {"rooms", "door", "cat", "sill", "person", "wish", "law", "x", ";", "!"};

    private final Random random;
    private final AloneRooms x = new AloneRooms();
    private final Model m = new Model();
    private final int run;
    /** The model is slow with four people, so most runs have fewer. */
    private final int most;
    private int rooms = 5;

    private RandomRunsTest(int run) {
        this.run = run;
        random = new Random(run);
        most = run % 8 == 0 ? 4 : run % 8 == 1 ? 3 : 2;
    }

    public static void main(String[] args) {
        int runs = args.length > 0 ? Integer.parseInt(args[0]) : 400;
        for (int run = 0; run < runs; run++) {
            new RandomRunsTest(run).play();
        }
        check.end();
    }

    private void play() {
        if (random.nextBoolean()) {
            build();
        }
        int calls = most == 4 ? 60 : 150;
        for (int i = 0; i < calls; i++) {
            call();
            due("digest", x.digest(), m.digest());
        }
        for (int what = 0; what < 3; what++) {
            due("status", x.status(what), m.status(what));
        }
    }

    private void due(String call, long got, long want) {
        check.due("run " + run + " " + call, got, want);
    }

    private int room() {
        return random.nextInt(20) == 0 ? random.nextInt(9) - 2 : random.nextInt(rooms);
    }

    private int one() {
        return random.nextInt(15) == 0 ? random.nextInt(7) - 2 : random.nextInt(Math.max(1, m.count(1)));
    }

    private int within(int low, int high) {
        if (random.nextInt(20) == 0) {
            int[] edges = {low - 1, high + 1, Integer.MIN_VALUE, Integer.MAX_VALUE};
            return edges[random.nextInt(4)];
        }
        return low + random.nextInt(high - low + 1);
    }

    /** Mostly one that can be reached: each stays, or tries a room. */
    private int standing() {
        if (random.nextInt(25) == 0) {
            return random.nextInt(6000) - 500;
        }
        int from = m.standing();
        int to = 0;
        for (int p = 0; p < m.count(1); p++) {
            int r = random.nextBoolean() ? from >> 3 * p & 7 : random.nextInt(rooms);
            to |= r << 3 * p;
        }
        return to;
    }

    private void build() {
        rooms = 2 + random.nextInt(4);
        due("rooms", x.rooms(rooms), m.rooms(rooms));
        for (int i = 0; i < rooms + 2; i++) {
            int a = room();
            int b = room();
            due("door", x.door(a, b, true), m.door(a, b, true));
        }
        int people = 1 + random.nextInt(most);
        for (int p = 0; p < people; p++) {
            int r = room();
            due("person", x.person(r), m.person(r));
        }
    }

    private void call() {
        switch (random.nextInt(8)) {
            case 0, 1 -> callHouse();
            case 2, 3 -> callBeats();
            case 4, 5 -> callPlans();
            case 6 -> callSills();
            default -> callKept();
        }
    }

    private void callHouse() {
        int a = room();
        int b = room();
        boolean is = random.nextInt(3) != 0;
        switch (random.nextInt(12)) {
            case 0, 1 -> due("door", x.door(a, b, is), m.door(a, b, is));
            case 2 -> due("cat", x.cat(a, is), m.cat(a, is));
            case 3 -> {
                int v = within(0, 999);
                due("lay", x.lay(a, v), m.lay(a, v));
            }
            case 4 -> {
                if (m.count(1) < most || most == 4) {
                    due("person", x.person(a), m.person(a));
                }
            }
            case 5, 6 -> {
                int k = within(0, 4);
                due("law", x.law(k), m.law(k));
            }
            case 7, 8 -> {
                int p = one();
                int h = within(1, 4);
                int r = random.nextInt(4) == 0 ? -1 : a;
                due("wish", x.wish(p, h, r), m.wish(p, h, r));
            }
            case 9 -> {
                if (random.nextInt(6) == 0) {
                    int n = within(1, 5);
                    due("rooms", x.rooms(n), m.rooms(n));
                    rooms = m.count(0);
                }
            }
            default -> callText();
        }
    }

    private void callText() {
        due("clear", x.clear(), m.clear());
        StringBuilder text = new StringBuilder("rooms ").append(1 + random.nextInt(5)).append(';');
        int items = random.nextInt(9);
        for (int i = 0; i < items; i++) {
            item(text);
        }
        if (random.nextInt(3) == 0) {
            text.setCharAt(random.nextInt(text.length()), (char) random.nextInt(256));
        }
        if (random.nextInt(4) == 0) {
            text.setLength(random.nextInt(text.length()));
        }
        for (int at = 0; at < text.length(); at += 8) {
            int n = Math.min(8, text.length() - at);
            long v = random.nextInt(3);
            for (int i = 0; i < n; i++) {
                v = v << 8 | text.charAt(at + i);
            }
            due("type", x.type(v, n), m.type(v, n));
        }
        int n = within(1, 8);
        if (n < 1 || n > 8) {
            due("type", x.type(0, n), m.type(0, n));
        }
        due("read of '" + text + "'", x.read(), m.read());
        rooms = m.count(0);
    }

    private void item(StringBuilder text) {
        int kind = random.nextInt(20) == 0 ? random.nextInt(WORDS.length) : 1 + random.nextInt(6);
        int[] numbers = {1, 2, 1, 2, 1, 3, 1, 0, 0, 0};
        int many = random.nextInt(30) == 0 ? random.nextInt(4) : numbers[kind];
        if (kind == 4 && most < 4 && random.nextInt(3) != 0) {
            return;
        }
        text.append(WORDS[kind]);
        for (int i = 0; i < many; i++) {
            text.append(random.nextInt(9) == 0 ? "  " : " ");
            text.append(random.nextInt(15) == 0 ? random.nextInt(1200) : random.nextInt(3));
        }
        text.append(random.nextInt(40) == 0 ? "" : ";");
    }

    private void callBeats() {
        int s = standing();
        int a = room();
        int p = one();
        switch (random.nextInt(9)) {
            case 0, 1, 2, 3 -> due("beat " + s, x.beat(s), m.beat(s));
            case 4 -> due("undo", x.undo(), m.undo());
            case 5 -> due("standing", x.standing(), m.standing());
            case 6 -> due("sill", x.sill(a), m.sill(a));
            case 7 -> due("purse", x.purse(p), m.purse(p));
            default -> due("alone", x.alone(p), m.alone(p));
        }
    }

    private void callPlans() {
        int s = standing();
        int h = most == 4 ? within(1, 2) : within(1, 4);
        switch (random.nextInt(12)) {
            case 0, 1 -> due("plan", x.plan(s), m.plan(s));
            case 2 -> due("scrap", x.scrap(), m.scrap());
            case 3 -> due("judge", x.judge(), m.judge());
            case 4 -> {
                int k = within(0, 4);
                due("cost", x.cost(k), m.cost(k));
            }
            case 5, 6 -> {
                int beat = random.nextInt(h >= 1 && h <= 4 ? h + 1 : 3);
                due("least " + h, x.least(h, beat), m.least(h, beat));
            }
            case 7 -> {
                int goal = random.nextBoolean() ? s : farStanding();
                due("fewest " + goal, x.fewest(goal), m.fewest(goal));
            }
            case 8 -> due("quiet", x.quiet(), m.quiet());
            case 9, 10 -> {
                int a = room();
                int l = within(0, 6);
                int i = within(-1, 7);
                due("picks", x.picks(a, l, i), m.picks(a, l, i));
            }
            default -> due("join " + h, x.join(h), m.join(h));
        }
    }

    private int farStanding() {
        int to = 0;
        for (int p = 0; p < m.count(1); p++) {
            to |= random.nextInt(rooms) << 3 * p;
        }
        return to;
    }

    private void callSills() {
        int a = room();
        int p = one();
        switch (random.nextInt(9)) {
            case 0, 1, 2 -> {
                int near = m.sill(random.nextInt(rooms)) + random.nextInt(2);
                int v = random.nextInt(3) != 0 ? Math.min(near, 1999) : within(0, 1999);
                due("spy", x.spy(a, v), m.spy(a, v));
            }
            case 3 -> spyABeat();
            case 4 -> due("fits", x.fits(), m.fits());
            case 5, 6 -> due("was", x.was(p, a), m.was(p, a));
            case 7 -> {
                int k = within(0, 99);
                int ahead = within(0, 1);
                due("rent", x.rent(k, ahead), m.rent(k, ahead));
            }
            default -> {
                int seed = within(0, 999999);
                int y = within(0, 20);
                int what = within(0, 1);
                due("drawn", x.drawn(seed, y, what), m.drawn(seed, y, what));
            }
        }
    }

    /** Tells the sills as a beat would leave them, so that some way fits. */
    private void spyABeat() {
        int s = standing();
        int laid = m.beat(s);
        due("beat", x.beat(s), laid);
        if (laid < 0) {
            return;
        }
        for (int r = 0; r < rooms; r++) {
            int v = Math.min(m.sill(r), 1999);
            due("spy", x.spy(r, v), m.spy(r, v));
        }
        due("undo", x.undo(), m.undo());
        due("fits", x.fits(), m.fits());
        for (int p = 0; p < m.count(1); p++) {
            int r = random.nextInt(rooms);
            due("was", x.was(p, r), m.was(p, r));
        }
    }

    private void callKept() {
        int i = within(0, 1);
        switch (random.nextInt(6)) {
            case 0 -> due("image", x.image(i), m.image(i));
            case 1 -> {
                due("from", x.from(i), m.from(i));
                rooms = m.count(0);
            }
            case 2 -> {
                int what = within(0, 2);
                due("status", x.status(what), m.status(what));
            }
            default -> {
                int what = within(0, 7);
                due("count", x.count(what), m.count(what));
            }
        }
    }
}
