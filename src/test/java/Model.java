import java.util.ArrayList;
import java.util.Arrays;
import java.util.HashMap;
import java.util.HashSet;
import java.util.List;
import java.util.Map;
import java.util.Set;
import java.util.TreeSet;

/**
 * The document once more, as plainly as can be and by other ways than AloneRooms: texts by regular
 * expressions, evenings forward with whole rows, the fewest beats by sets. For comparing only.
 */
final class Model {
    /** All that an image keeps. */
    private static final class State {
        int n = 5;
        int law;
        int beat;
        Set<List<Integer>> doors = new HashSet<>();
        Set<Integer> cats = new TreeSet<>();
        int[] sills = new int[5];
        int[] told = new int[5];
        List<Integer> rooms = new ArrayList<>();
        List<Integer> purses = new ArrayList<>();
        Map<List<Integer>, Integer> wishes = new HashMap<>();
        List<Integer> plan = new ArrayList<>();
        List<State> undo = new ArrayList<>();

        State copy() {
            State s = new State();
            s.n = n;
            s.law = law;
            s.beat = beat;
            s.doors.addAll(doors);
            s.cats.addAll(cats);
            s.sills = sills.clone();
            s.told = told.clone();
            s.rooms.addAll(rooms);
            s.purses.addAll(purses);
            s.wishes.putAll(wishes);
            s.plan.addAll(plan);
            s.undo.addAll(undo);
            return s;
        }

        boolean joined(int a, int b) {
            return doors.contains(List.of(Math.min(a, b), Math.max(a, b)));
        }
    }

    private State s = new State();
    private final State[] images = new State[2];
    private String text = "";
    private final int[] refused = new int[3];

    private int refuse(int reason) {
        refused[-2 - reason]++;
        return reason;
    }

    private boolean room(int r) {
        return 0 <= r && r < s.n;
    }

    private boolean one(int p) {
        return 0 <= p && p < s.rooms.size();
    }

    int rooms(int n) {
        if (n < 1 || n > 5) return refuse(-2);
        int was = s.n;
        s = new State();
        s.n = n;
        return was;
    }

    int door(int a, int b, boolean is) {
        if (!room(a) || !room(b) || a == b) return refuse(-2);
        List<Integer> pair = List.of(Math.min(a, b), Math.max(a, b));
        boolean changed = is ? s.doors.add(pair) : s.doors.remove(pair);
        return changed ? 1 : refuse(-3);
    }

    int cat(int r, boolean is) {
        if (!room(r)) return refuse(-2);
        boolean changed = is ? s.cats.add(r) : s.cats.remove(r);
        return changed ? 1 : refuse(-3);
    }

    int lay(int r, int v) {
        if (!room(r) || v < 0 || v > 999) return refuse(-2);
        int was = s.sills[r];
        s.sills[r] = v;
        return was;
    }

    int person(int r) {
        if (!room(r)) return refuse(-2);
        if (s.rooms.size() == 4) return refuse(-4);
        s.rooms.add(r);
        s.purses.add(0);
        s.undo.clear();
        return s.rooms.size() - 1;
    }

    int law(int k) {
        if (k < 0 || k > 4) return refuse(-2);
        int was = s.law;
        s.law = k;
        return was;
    }

    int wish(int p, int h, int r) {
        if (!one(p) || h < 1 || h > 4 || !(r == -1 || room(r))) {
            refuse(-2);
            return -10;
        }
        int was = s.wishes.getOrDefault(List.of(p, h), -1);
        s.wishes.put(List.of(p, h), r);
        return was;
    }

    int type(long v, int n) {
        if (n < 1 || n > 8) return refuse(-2);
        if (text.length() + n > 200) return refuse(-4);
        StringBuilder more = new StringBuilder();
        for (int i = 0; i < n; i++, v >>>= 8) more.insert(0, (char) (v & 255));
        text += more;
        return text.length();
    }

    int clear() {
        int had = text.length();
        text = "";
        return had;
    }

    int read() {
        State told = new State();
        int fault = readInto(told);
        if (fault >= 0) return -10 - fault;
        s = told;
        return s.rooms.size();
    }

    private static String shape(String word, boolean first) {
        if (first) return word.equals("rooms") ? "n" : null;
        return switch (word) {
            case "door" -> "rr";
            case "cat", "person" -> "r";
            case "sill" -> "rv";
            case "wish" -> "phr";
            case "law" -> "k";
            default -> null;
        };
    }

    /** The fault, or -1. */
    private int readInto(State told) {
        var matcher = java.util.regex.Pattern.compile("[a-z]+|[0-9]+|[^ ]", java.util.regex.Pattern.DOTALL).matcher(text);
        List<String> tokens = new ArrayList<>();
        List<Integer> places = new ArrayList<>();
        while (matcher.find()) {
            tokens.add(matcher.group());
            places.add(matcher.start());
        }
        places.add(text.length());
        int at = 0;
        while (at == 0 || at < tokens.size()) {
            if (at == tokens.size()) return text.length();
            String word = tokens.get(at);
            String shape = shape(word, at == 0);
            if (shape == null || word.equals("person") && told.rooms.size() == 4) return places.get(at);
            int[] numbers = new int[3];
            for (int i = 0; i < shape.length(); i++) {
                at++;
                if (at == tokens.size() || !tokens.get(at).matches("[0-9]{1,3}")) return places.get(at);
                numbers[i] = Integer.parseInt(tokens.get(at));
                if (!fine(told, shape.charAt(i), numbers[i])) return places.get(at);
                if (word.equals("door") && i == 1 && numbers[0] == numbers[1]) return places.get(at);
            }
            at++;
            if (at == tokens.size() || !tokens.get(at).equals(";")) return places.get(at);
            at++;
            tell(told, word, numbers);
        }
        return -1;
    }

    private static boolean fine(State told, char kind, int v) {
        return switch (kind) {
            case 'n' -> v >= 1 && v <= 5;
            case 'r' -> v < told.n;
            case 'p' -> v < told.rooms.size();
            case 'h' -> v >= 1 && v <= 4;
            case 'k' -> v <= 4;
            default -> true;
        };
    }

    private static void tell(State told, String word, int[] v) {
        switch (word) {
            case "rooms" -> told.n = v[0];
            case "door" -> told.doors.add(List.of(Math.min(v[0], v[1]), Math.max(v[0], v[1])));
            case "cat" -> told.cats.add(v[0]);
            case "sill" -> told.sills[v[0]] = v[1];
            case "person" -> {
                told.rooms.add(v[0]);
                told.purses.add(0);
            }
            case "wish" -> told.wishes.put(List.of(v[0], v[1]), v[2]);
            default -> told.law = v[0];
        }
    }

    // ---- beats

    /** Rooms of a standing, or null. */
    private List<Integer> told(int standing) {
        if (standing < 0) return null;
        List<Integer> rooms = new ArrayList<>();
        int rest = standing;
        for (int p = 0; p < s.rooms.size(); p++) {
            if (rest % 8 >= s.n) return null;
            rooms.add(rest % 8);
            rest /= 8;
        }
        return rest == 0 ? rooms : null;
    }

    private static int number(List<Integer> rooms) {
        int standing = 0;
        for (int p = rooms.size() - 1; p >= 0; p--) standing = 8 * standing + rooms.get(p);
        return standing;
    }

    private static boolean canGo(State s, List<Integer> from, List<Integer> to) {
        for (int p = 0; p < from.size(); p++) {
            int a = from.get(p);
            int b = to.get(p);
            if (a != b && !s.joined(a, b)) return false;
        }
        return true;
    }

    private static boolean isAlone(State s, List<Integer> rooms, int p) {
        int here = 0;
        for (int r : rooms) if (r == rooms.get(p)) here++;
        return here == 1 && !s.cats.contains(rooms.get(p));
    }

    private static boolean lays(State s, int law, int beat, List<Integer> from, List<Integer> to, int p) {
        if (!isAlone(s, to, p)) return false;
        boolean stayed = from.get(p).equals(to.get(p));
        boolean asOnce = !(stayed && isAlone(s, from, p));
        return switch (law) {
            case 1 -> true;
            case 3 -> beat % 2 != 0;
            case 4 -> asOnce && !stayed;
            default -> asOnce;
        };
    }

    private static int laid(State s, int law, int beat, List<Integer> from, List<Integer> to) {
        int laid = 0;
        for (int p = 0; p < from.size(); p++) if (lays(s, law, beat, from, to, p)) laid++;
        return laid;
    }

    private static int go(State s, List<Integer> to) {
        List<Integer> from = s.rooms;
        s.beat++;
        int laid = 0;
        for (int p = 0; p < to.size(); p++) {
            if (lays(s, s.law, s.beat, from, to, p)) {
                laid++;
                s.purses.set(p, s.purses.get(p) - 1);
                s.sills[to.get(p)]++;
            }
        }
        for (int r = 0; r < s.n; r++) {
            List<Integer> here = new ArrayList<>();
            List<Integer> came = new ArrayList<>();
            for (int p = 0; p < to.size(); p++) {
                if (to.get(p) == r) here.add(p);
                if (to.get(p) == r && from.get(p) != r) came.add(p);
            }
            if (here.size() < 2 || came.isEmpty()) continue;
            int taker = came.get(0);
            here.remove(Integer.valueOf(taker));
            int half = s.law == 2 || s.law == 4 ? s.sills[r] / 2 : 0;
            s.purses.set(here.get(0), s.purses.get(here.get(0)) + half);
            s.purses.set(taker, s.purses.get(taker) + s.sills[r] - half);
            s.sills[r] = 0;
        }
        s.rooms = new ArrayList<>(to);
        return laid;
    }

    int beat(int standing) {
        List<Integer> to = told(standing);
        if (to == null) return refuse(-2);
        if (!canGo(s, s.rooms, to)) return refuse(-3);
        State before = s.copy();
        s.undo.add(before);
        if (s.undo.size() > 8) s.undo.remove(0);
        return go(s, to);
    }

    int undo() {
        if (s.undo.isEmpty()) return refuse(-3);
        State before = s.undo.remove(s.undo.size() - 1);
        s.beat--;
        s.rooms = new ArrayList<>(before.rooms);
        s.purses = new ArrayList<>(before.purses);
        s.sills = before.sills.clone();
        return 1;
    }

    int standing() {
        return number(s.rooms);
    }

    int sill(int r) {
        return room(r) ? s.sills[r] : refuse(-2);
    }

    int purse(int p) {
        if (one(p)) return s.purses.get(p);
        refuse(-2);
        return -100000;
    }

    int alone(int p) {
        if (!one(p)) return refuse(-2);
        return isAlone(s, s.rooms, p) ? 1 : 0;
    }

    // ---- plans

    int plan(int standing) {
        if (told(standing) == null) return refuse(-2);
        if (s.plan.size() == 8) return refuse(-4);
        s.plan.add(standing);
        return s.plan.size();
    }

    int scrap() {
        int had = s.plan.size();
        s.plan.clear();
        return had;
    }

    int judge() {
        List<Integer> from = s.rooms;
        for (int i = 0; i < s.plan.size(); i++) {
            List<Integer> to = told(s.plan.get(i));
            if (!canGo(s, from, to)) return i;
            from = to;
        }
        return -1;
    }

    int cost(int law) {
        if (law < 0 || law > 4) return refuse(-2);
        if (judge() != -1) return refuse(-3);
        State t = s.copy();
        t.law = law;
        int laid = 0;
        for (int standing : s.plan) laid += go(t, told(standing));
        return laid;
    }

    /** All standings, as rising lists. */
    private static List<List<Integer>> standings(State s) {
        List<List<Integer>> all = new ArrayList<>();
        all.add(List.of());
        for (int p = 0; p < s.rooms.size(); p++) {
            List<List<Integer>> longer = new ArrayList<>();
            for (List<Integer> some : all) {
                for (int r = 0; r < s.n; r++) {
                    List<Integer> more = new ArrayList<>(some);
                    more.add(r);
                    longer.add(more);
                }
            }
            all = longer;
        }
        return all;
    }

    private static List<List<Integer>> onward(State s, List<Integer> from) {
        List<List<Integer>> found = new ArrayList<>();
        for (List<Integer> to : standings(s)) if (canGo(s, from, to)) found.add(to);
        return found;
    }

    private record Row(int laid, List<Integer> rooms) {
        boolean better(Row o) {
            if (o == null || laid != o.laid) return o == null || laid < o.laid;
            for (int i = 0; i < rooms.size(); i++) {
                if (!rooms.get(i).equals(o.rooms.get(i))) return rooms.get(i) < o.rooms.get(i);
            }
            return false;
        }
    }

    /** The best row, all rooms of all beats one behind the other; or null. */
    private static Row evening(State s, int h) {
        Map<List<Integer>, Row> rows = new HashMap<>();
        rows.put(s.rooms, new Row(0, List.of()));
        for (int beat = 1; beat <= h; beat++) {
            Map<List<Integer>, Row> next = new HashMap<>();
            for (var entry : rows.entrySet()) {
                for (List<Integer> to : onward(s, entry.getKey())) {
                    if (!kept(s, to, beat)) continue;
                    List<Integer> rooms = new ArrayList<>(entry.getValue().rooms());
                    rooms.addAll(to);
                    int laid = entry.getValue().laid() + laid(s, s.law, s.beat + beat, entry.getKey(), to);
                    Row row = new Row(laid, rooms);
                    if (row.better(next.get(to))) next.put(to, row);
                }
            }
            rows = next;
        }
        Row best = null;
        for (Row row : rows.values()) if (row.better(best)) best = row;
        return best;
    }

    private static boolean kept(State s, List<Integer> to, int beat) {
        for (int p = 0; p < to.size(); p++) {
            int wish = s.wishes.getOrDefault(List.of(p, beat), -1);
            if (wish != -1 && wish != to.get(p)) return false;
        }
        return true;
    }

    int least(int h, int beat) {
        if (h < 1 || h > 4 || beat < 0 || beat > h) return refuse(-2);
        Row best = evening(s, h);
        if (best == null) return -1;
        int people = s.rooms.size();
        return beat == 0 ? best.laid() : number(best.rooms().subList((beat - 1) * people, beat * people));
    }

    int fewest(int standing) {
        List<Integer> goal = told(standing);
        if (goal == null) return refuse(-2);
        Set<List<Integer>> now = new HashSet<>();
        now.add(s.rooms);
        List<Set<List<Integer>>> before = new ArrayList<>();
        for (int beats = 0; beats <= 999; beats++) {
            if (now.contains(goal)) return beats;
            if (beats >= 2 && before.get(beats - 2).equals(now)) {
                // Sets of like beats repeat every two: this one and the one ahead of it were all.
                if (before.get(beats - 1).contains(goal)) return beats - 1;
                if (beats >= 3 && before.get(beats - 3).equals(before.get(beats - 1))) return -1;
            }
            Set<List<Integer>> next = new HashSet<>();
            for (List<Integer> from : now) {
                for (List<Integer> to : onward(s, from)) {
                    if (laid(s, s.law, s.beat + beats + 1, from, to) == 0) next.add(to);
                }
            }
            before.add(now);
            now = next;
        }
        return -1;
    }

    int quiet() {
        int quiet = 0;
        for (List<Integer> rooms : standings(s)) {
            boolean nobody = true;
            for (int p = 0; p < rooms.size(); p++) if (isAlone(s, rooms, p)) nobody = false;
            if (nobody) quiet++;
        }
        return quiet;
    }

    int picks(int r, int l, int i) {
        if (!room(r) || l < 0 || l > 6 || i < -1) {
            refuse(-2);
            return -10;
        }
        List<List<Integer>> rows = List.of(List.of(r));
        List<Integer> best = null;
        int most = -1;
        for (int steps = 0; steps <= l; steps++) {
            List<List<Integer>> longer = new ArrayList<>();
            for (List<Integer> row : rows) {
                int sum = 0;
                for (int room : new HashSet<>(row)) sum += s.sills[room];
                if (sum > most) {
                    most = sum;
                    best = row;
                }
                for (int next = 0; next < s.n; next++) {
                    if (s.joined(row.get(steps), next)) {
                        List<Integer> more = new ArrayList<>(row);
                        more.add(next);
                        longer.add(more);
                    }
                }
            }
            rows = longer;
        }
        if (i == -1) return most;
        return i < best.size() ? best.get(i) : -5;
    }

    int join(int h) {
        if (h < 1 || h > 4) return refuse(-2);
        if (s.rooms.size() == 4) return refuse(-3);
        Row now = evening(s, h);
        int best = now == null ? Integer.MAX_VALUE : now.laid();
        int pair = -1;
        for (int a = 0; a < s.n; a++) {
            for (int b = a + 1; b < s.n; b++) {
                Row then = evening(oneOf(a, b), h);
                if (then != null && then.laid() < best) {
                    best = then.laid();
                    pair = 10 * a + b;
                }
            }
        }
        return pair;
    }

    private State oneOf(int a, int b) {
        State t = s.copy();
        t.doors.clear();
        for (List<Integer> door : s.doors) {
            int c = door.get(0) == b ? a : door.get(0);
            int d = door.get(1) == b ? a : door.get(1);
            if (c != d) t.doors.add(List.of(Math.min(c, d), Math.max(c, d)));
        }
        t.cats.clear();
        for (int c : s.cats) t.cats.add(c == b ? a : c);
        t.rooms.replaceAll(r -> r == b ? a : r);
        t.wishes.replaceAll((k, r) -> r == b ? a : r);
        return t;
    }

    // ---- sills

    int spy(int r, int v) {
        if (!room(r) || v < 0 || v > 1999) return refuse(-2);
        int was = s.told[r];
        s.told[r] = v;
        return was;
    }

    private List<State> fitting() {
        List<State> fitting = new ArrayList<>();
        for (List<Integer> to : onward(s, s.rooms)) {
            State t = s.copy();
            go(t, to);
            if (Arrays.equals(t.sills, t.told)) fitting.add(t);
        }
        return fitting;
    }

    int fits() {
        return fitting().size();
    }

    int was(int p, int r) {
        if (!one(p) || !room(r)) return refuse(-2);
        int was = 0;
        for (State t : fitting()) if (t.rooms.get(p) == r && isAlone(t, t.rooms, p)) was++;
        return was;
    }

    int rent(int k, int ahead) {
        if (k < 0 || k > 99 || ahead < 0 || ahead > 1) return refuse(-2);
        int odd = (s.beat + k + 1) / 2 - (s.beat + 1) / 2;
        return switch (s.law) {
            case 1 -> k;
            case 3 -> odd;
            case 4 -> 0;
            default -> ahead == 1 ? 0 : Math.min(k, 1);
        };
    }

    int drawn(int seed, int y, int what) {
        if (seed < 0 || seed > 999999 || y < 0 || y > 20 || what < 0 || what > 1) return refuse(-2);
        State t = s.copy();
        java.math.BigInteger x = java.math.BigInteger.valueOf(seed);
        int laid = 0;
        for (int i = 0; i < y; i++) {
            List<Integer> to = new ArrayList<>();
            for (int from : t.rooms) {
                x = x.multiply(java.math.BigInteger.valueOf(1103515245)).add(java.math.BigInteger.valueOf(12345))
                        .mod(java.math.BigInteger.TWO.pow(31));
                List<Integer> may = new ArrayList<>();
                for (int r = 0; r < t.n; r++) if (r == from || t.joined(r, from)) may.add(r);
                to.add(may.get(x.intValueExact() / 65536 % may.size()));
            }
            laid += go(t, to);
        }
        return what == 0 ? laid : new HashSet<>(t.rooms).size();
    }

    // ---- what there is

    int image(int i) {
        if (i != 0 && i != 1) return refuse(-2);
        images[i] = s.copy();
        return 1;
    }

    int from(int i) {
        if (i != 0 && i != 1) return refuse(-2);
        if (images[i] == null) return refuse(-3);
        s = images[i].copy();
        return 1;
    }

    int status(int what) {
        if (what >= 0 && what <= 2) return refused[what];
        refuse(-2);
        return -1;
    }

    int count(int what) {
        return switch (what) {
            case 0 -> s.n;
            case 1 -> s.rooms.size();
            case 2 -> s.doors.size();
            case 3 -> s.cats.size();
            case 4 -> s.beat;
            case 5 -> s.plan.size();
            case 6 -> s.undo.size();
            case 7 -> text.length();
            default -> refuse(-2);
        };
    }

    long digest() {
        List<Integer> v = new ArrayList<>();
        for (int what = 0; what < 8; what++) v.add(count(what));
        v.add(s.law);
        v.add(standing());
        for (int p = 0; p < s.rooms.size(); p++) {
            v.add(s.purses.get(p));
            for (int h = 1; h <= 4; h++) v.add(s.wishes.getOrDefault(List.of(p, h), -1));
        }
        for (int r = 0; r < s.n; r++) {
            v.add(s.sills[r]);
            v.add(s.cats.contains(r) ? 1 : 0);
            int bits = 0;
            for (int o = 0; o < s.n; o++) if (s.joined(r, o)) bits += 1 << o;
            v.add(bits);
            v.add(s.told[r]);
        }
        v.addAll(s.plan);
        long h = 757;
        for (int each : v) h = 31 * h + each;
        return h;
    }
}
