import java.math.BigInteger;
import java.util.ArrayDeque;
import java.util.ArrayList;
import java.util.Deque;
import java.util.List;
import java.util.regex.Matcher;
import java.util.regex.Pattern;

/** The document once more, by brute force and with the Java library: what ModelTest compares with. */
final class PlainModel {
    private record Door(int a, int b) { }

    private record Boy(int low, int high, int age, int breaks, int home) { }

    private record Sound(int door, int opened) { }

    private static final class Now {
        List<Integer> places = new ArrayList<>();
        List<Integer> ages = new ArrayList<>();
        List<Integer> colds = new ArrayList<>();
        List<Integer> pitches = new ArrayList<>();
        List<Boolean> propped = new ArrayList<>();
        int year = 0;

        Now copy() {
            Now other = new Now();
            other.places.addAll(places);
            other.ages.addAll(ages);
            other.colds.addAll(colds);
            other.pitches.addAll(pitches);
            other.propped.addAll(propped);
            other.year = year;
            return other;
        }
    }

    private static final class Told {
        int places = 2;
        int step = 5;
        List<Door> doors = new ArrayList<>();
        List<Boy> boys = new ArrayList<>();
        Now start = new Now();
    }

    private Told told = new Told();
    private Now now = new Now();
    private final Deque<Now> past = new ArrayDeque<>();
    private final Now[] images = new Now[2];
    private final List<Sound> heard = new ArrayList<>();
    private final StringBuilder text = new StringBuilder();
    private long trace = 0;

    long answer(int call, int a, int b, int c) {
        switch (call) {
            case 0: return type(a);
            case 1: { int had = text.length(); text.setLength(0); return had; }
            case 2: return city();
            case 3: return door(a, b);
            case 4: return boy(a, b);
            case 5: return now(a);
            case 6: return goes(a, b);
            case 7: return colds(a, b);
            case 8: return props(a, b);
            case 9: return year();
            case 10: return michaelmas();
            case 11: return undo();
            case 12: return !isBoy(a) || b < 0 || b >= told.places ? -1 : way(a, b);
            case 13: return a == -1 || isBoy(a) ? posts(a) : -1;
            case 14: return tune(a);
            case 15: return !isBoy(a) || !isBoy(b) || a == b ? -1 : thirds(a, b);
            case 16: return odds(a, b, c);
            case 17: return hears(a, b);
            case 18: { int was = heard.size(); heard.clear(); return was; }
            case 19: return who();
            case 20: return ask();
            case 21: return a < 0 || a > 5 || !isBoy(b) ? -1000000 : rate(a, b);
            case 22: return keep(a);
            case 23: return back(a);
            case 24: return count(a);
            default: return trace;
        }
    }

    private boolean isBoy(int b) {
        return b >= 0 && b < told.boys.size();
    }

    private boolean isDoor(int d) {
        return d >= 0 && d < told.doors.size();
    }

    private int type(int letter) {
        if (letter < 0 || letter > 255) return -1;
        if (text.length() == 150) return -3;
        text.append((char) letter);
        return text.length();
    }

    // ---- the text: all tokens first, then a list of what each item wants

    private int city() {
        List<String> tokens = new ArrayList<>();
        List<Integer> starts = new ArrayList<>();
        Matcher m = Pattern.compile("[0-9]+|[^ ]", Pattern.DOTALL).matcher(text);
        while (m.find()) {
            tokens.add(m.group());
            starts.add(m.start());
        }
        tokens.add("end");
        starts.add(text.length());
        Told fresh = new Told();
        int items = 0;
        boolean steps = false;
        int i = 0;
        while (!tokens.get(i).equals("end")) {
            String head = tokens.get(i);
            boolean can = head.equals("n") && items == 0 || head.equals("s") && !steps
                || head.equals("d") && fresh.doors.size() < 8 || head.equals("b") && fresh.boys.size() < 5;
            if (!can) return -10 - starts.get(i);
            List<Integer> numbers = new ArrayList<>();
            int wanted = head.equals("d") ? 3 : head.equals("b") ? 5 : 1;
            while (numbers.size() < wanted) {
                i++;
                if (!tokens.get(i).matches("0|[1-9][0-9]?")) return -10 - starts.get(i);
                numbers.add(Integer.parseInt(tokens.get(i)));
                if (!fits(fresh, head, numbers)) return -10 - starts.get(i);
            }
            i++;
            if (!tokens.get(i).equals(";")) return -10 - starts.get(i);
            i++;
            items++;
            steps |= head.equals("s");
            put(fresh, head, numbers);
        }
        told = fresh;
        now = fresh.start.copy();
        past.clear();
        heard.clear();
        images[0] = images[1] = null;
        text.setLength(0);
        return items;
    }

    private static boolean fits(Told fresh, String head, List<Integer> numbers) {
        int k = numbers.size() - 1;
        int v = numbers.get(k);
        if (head.equals("n")) return v >= 1 && v <= 8;
        if (head.equals("s")) return v <= 40;
        if (head.equals("d")) return k == 2 ? v <= 40 : v < fresh.places && (k == 0 || v != numbers.get(0));
        if (k == 0) return v <= 40;
        if (k == 1) return v <= 40 && v >= numbers.get(0);
        if (k == 4) return v < fresh.places;
        return v >= 7 && v <= 20;
    }

    private static void put(Told fresh, String head, List<Integer> v) {
        if (head.equals("n")) fresh.places = v.get(0);
        if (head.equals("s")) fresh.step = v.get(0);
        if (head.equals("d")) {
            fresh.doors.add(new Door(v.get(0), v.get(1)));
            fresh.start.pitches.add(v.get(2));
            fresh.start.propped.add(false);
        }
        if (head.equals("b")) {
            fresh.boys.add(new Boy(v.get(0), v.get(1), v.get(2), v.get(3), v.get(4)));
            fresh.start.places.add(v.get(4));
            fresh.start.ages.add(v.get(2));
            fresh.start.colds.add(0);
        }
    }

    // ---- what boys sing and open

    private int[] range(Now then, int b) {
        Boy boy = told.boys.get(b);
        int fall = then.ages.get(b) < boy.breaks ? 0 : 12;
        return new int[] {boy.low - fall, boy.high - fall - then.colds.get(b)};
    }

    private boolean sings(Now then, int b, int pitch) {
        int[] range = range(then, b);
        return range[0] <= pitch && pitch <= range[1];
    }

    private boolean opens(Now then, int b, int d) {
        return then.propped.get(d) || sings(then, b, then.pitches.get(d));
    }

    private int keys(Now then, int b) {
        int bits = 0;
        for (int d = 0; d < told.doors.size(); d++) if (opens(then, b, d)) bits += 1 << d;
        return bits;
    }

    private int openers(int d) {
        int bits = 0;
        for (int b = 0; b < told.boys.size(); b++) if (opens(now, b, d)) bits += 1 << b;
        return bits;
    }

    /** Fewest doors between all places, by Floyd and Warshall. */
    private int[][] distances(Now then, int b) {
        int n = told.places;
        int[][] far = new int[n][n];
        for (int i = 0; i < n; i++) for (int j = 0; j < n; j++) far[i][j] = i == j ? 0 : 1000;
        for (int d = 0; d < told.doors.size(); d++) {
            Door door = told.doors.get(d);
            if (opens(then, b, d)) far[door.a][door.b] = far[door.b][door.a] = 1;
        }
        for (int k = 0; k < n; k++) for (int i = 0; i < n; i++) for (int j = 0; j < n; j++) {
            far[i][j] = Math.min(far[i][j], far[i][k] + far[k][j]);
        }
        return far;
    }

    private int way(int b, int place) {
        int far = distances(now, b)[now.places.get(b)][place];
        return far >= 1000 ? -9 : far;
    }

    private int shut(int b) {
        Now then = now.copy();
        for (int years = 0; years <= 20; years++) {
            if (distances(then, b)[then.places.get(b)][told.boys.get(b).home] >= 1000) return years;
            passYear(then);
        }
        return -9;
    }

    private void passYear(Now then) {
        then.year++;
        then.ages.replaceAll(age -> age + 1);
        then.colds.replaceAll(cold -> 0);
    }

    private int door(int d, int what) {
        if (!isDoor(d) || what < 0 || what > 4) return -1;
        Door door = told.doors.get(d);
        return new int[] {door.a, door.b, now.pitches.get(d), now.propped.get(d) ? 1 : 0, openers(d)}[what];
    }

    private int boy(int b, int what) {
        if (!isBoy(b) || what < 0 || what > 9) return -1000000;
        int[] range = range(now, b);
        Boy boy = told.boys.get(b);
        int reach = 0;
        for (int p = 0; p < told.places; p++) if (way(b, p) != -9) reach += 1 << p;
        return new int[] {range[0], range[1], now.ages.get(b), boy.breaks, boy.home, now.places.get(b),
            now.colds.get(b), keys(now, b), reach, shut(b)}[what];
    }

    private int proppedBits() {
        int bits = 0;
        for (int d = 0; d < told.doors.size(); d++) if (now.propped.get(d)) bits += 1 << d;
        return bits;
    }

    private int now(int what) {
        if (what == 0) return now.year;
        if (what == 1) return proppedBits();
        if (what == 2) {
            int bits = 0;
            for (int b = 0; b < told.boys.size(); b++) {
                if (now.places.get(b) == told.boys.get(b).home) bits += 1 << b;
            }
            return bits;
        }
        if (what == 3) return all();
        return what == 4 ? past.size() : -1;
    }

    private int all() {
        for (int size = 0; size <= told.boys.size(); size++) {
            for (int set = 0; set < 1 << told.boys.size(); set++) {
                int doors = 0;
                for (int d = 0; d < told.doors.size(); d++) if ((openers(d) & set) != 0) doors++;
                if (Integer.bitCount(set) == size && doors == told.doors.size()) return set;
            }
        }
        return -9;
    }

    // ---- what is done

    private void remember() {
        past.push(now.copy());
        if (past.size() > 10) past.removeLast();
    }

    private int goes(int b, int d) {
        if (!isBoy(b) || !isDoor(d)) return -1;
        Door door = told.doors.get(d);
        int at = now.places.get(b);
        if (at != door.a && at != door.b || !opens(now, b, d)) return -2;
        remember();
        now.places.set(b, door.a + door.b - at);
        return now.places.get(b);
    }

    private int colds(int b, int n) {
        if (!isBoy(b) || n < 0 || n > 9) return -1;
        if (now.colds.get(b) == n) return -2;
        remember();
        return now.colds.set(b, n);
    }

    private int props(int d, int is) {
        if (!isDoor(d) || is != 0 && is != 1) return -1;
        if (now.propped.get(d) == (is == 1)) return -2;
        remember();
        now.propped.set(d, is == 1);
        return Integer.bitCount(proppedBits());
    }

    private int year() {
        if (now.year == 99) return -2;
        remember();
        int whole = 0;
        for (int b = 0; b < told.boys.size(); b++) if (now.ages.get(b) < told.boys.get(b).breaks) whole++;
        passYear(now);
        for (int b = 0; b < told.boys.size(); b++) if (now.ages.get(b) < told.boys.get(b).breaks) whole--;
        return whole;
    }

    private int michaelmas() {
        remember();
        now.pitches.replaceAll(pitch -> pitch + told.step > 40 ? pitch + told.step - 41 : pitch + told.step);
        int none = 0;
        for (int d = 0; d < told.doors.size(); d++) if (openers(d) == 0) none++;
        return none;
    }

    private int undo() {
        if (past.isEmpty()) return -2;
        now = past.pop();
        return past.size();
    }

    // ---- posts, tunes, thirds, odds

    /** All ways to stand, in their order, so that the first with the most is the one. */
    private int posts(int b) {
        List<Integer> best = null;
        int most = -1;
        List<List<Integer>> ways = new ArrayList<>();
        listWays(ways, new ArrayList<>());
        for (List<Integer> way : ways) {
            int standing = (int) way.stream().filter(d -> d != -9).count();
            if (standing > most) {
                most = standing;
                best = way;
            }
        }
        return b == -1 ? most : best.get(b);
    }

    private void listWays(List<List<Integer>> ways, List<Integer> way) {
        int b = way.size();
        if (b == told.boys.size()) {
            ways.add(new ArrayList<>(way));
            return;
        }
        for (int d = 0; d <= told.doors.size(); d++) {
            int post = d == told.doors.size() ? -9 : d;
            if (post == -9 || opens(now, b, d) && !way.contains(d)) {
                way.add(post);
                listWays(ways, way);
                way.remove(way.size() - 1);
            }
        }
    }

    private int tune(int set) {
        if (set < 0 || set >= 1 << told.boys.size()) return -1;
        for (int pitch = 0; pitch <= 40; pitch++) {
            boolean just = true;
            for (int b = 0; b < told.boys.size(); b++) just &= sings(now, b, pitch) == ((set >> b) % 2 == 1);
            if (just) return pitch;
        }
        return -9;
    }

    private int thirds(int a, int b) {
        int rows = 0;
        for (int d = 0; d < told.doors.size(); d++) {
            for (int e = 0; e < told.doors.size(); e++) {
                int p = now.pitches.get(d);
                int q = now.pitches.get(e);
                if (d != e && sings(now, a, p) && sings(now, b, q) && (p == q + 4 || q == p + 4)) rows++;
            }
        }
        return rows;
    }

    /** Every case that boys have a cold or not, each with its weight. */
    private int odds(int x, int k, int what) {
        if (x < 0 || x > 10 || k < 0 || k > 5 || what < 0 || what > 1) return -1;
        int boys = 0;
        for (int b = 0; b < told.boys.size(); b++) if (now.ages.get(b) < told.boys.get(b).breaks) boys++;
        BigInteger upper = BigInteger.ZERO;
        for (int who = 0; who < 1 << boys; who++) {
            int ill = Integer.bitCount(who);
            if (ill <= k) upper = upper.add(BigInteger.valueOf(x).pow(ill).multiply(BigInteger.valueOf(10 - x).pow(boys - ill)));
        }
        BigInteger lower = BigInteger.TEN.pow(boys);
        BigInteger common = upper.gcd(lower);
        return (what == 0 ? upper : lower).divide(common).intValueExact();
    }

    // ---- who went by

    private int hears(int d, int opened) {
        if (!isDoor(d) || opened != 0 && opened != 1) return -1;
        if (heard.size() == 6) return -3;
        heard.add(new Sound(d, opened));
        return heard.size();
    }

    private int who() {
        int bits = 0;
        for (int b = 0; b < told.boys.size(); b++) {
            int boy = b;
            if (heard.stream().allMatch(s -> opens(now, boy, s.door) == (s.opened == 1))) bits += 1 << b;
        }
        return bits;
    }

    private int ask() {
        int who = who();
        int best = -9;
        int least = 99;
        if (Integer.bitCount(who) < 2) return -9;
        for (int d = 0; d < told.doors.size(); d++) {
            int part = Math.max(Integer.bitCount(who & openers(d)), Integer.bitCount(who & ~openers(d)));
            if (part < least) {
                least = part;
                best = d;
            }
        }
        return best;
    }

    // ---- kinds, images

    private int rate(int kind, int b) {
        switch (kind) {
            case 0: trace += 1; return now.ages.get(b);
            case 1: trace += 10; return rate(0, b) + range(now, b)[1];
            case 2: trace += 100; return rate(0, b) - Integer.bitCount(keys(now, b));
            case 3: trace += 1000; return 2 * rate(1, b);
            case 4: trace += 10000; return rate(2, b) + b;
            default: trace += 100000; return rate(0, b) + now.places.get(b);
        }
    }

    private int keep(int image) {
        if (image != 0 && image != 1) return -1;
        images[image] = now.copy();
        return now.year;
    }

    private int back(int image) {
        if (image != 0 && image != 1) return -1;
        if (images[image] == null) return -2;
        now = images[image].copy();
        past.clear();
        return now.year;
    }

    private int count(int what) {
        int[] counts = {told.places, told.doors.size(), told.boys.size(), told.step, heard.size(), text.length()};
        return what < 0 || what > 5 ? -1 : counts[what];
    }
}
