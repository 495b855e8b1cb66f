import java.math.BigInteger;
import java.util.ArrayDeque;
import java.util.ArrayList;
import java.util.Collections;
import java.util.Comparator;
import java.util.Deque;
import java.util.List;
import java.util.Map;
import java.util.TreeMap;
import java.util.TreeSet;
import java.util.regex.Matcher;
import java.util.regex.Pattern;

/** The document once more, written another way: snapshots, sets and big numbers. */
final class Model {
    static final int BAD = -1, STATE = -2, FULL = -3, NONE = -9, NO = -1000000;

    private record Told(int weight, int size, int swell, int seats) { }

    private record Seen(int d, int m, int v) { }

    private static final class Now {
        int minute;
        int heat;
        final Map<Integer, Integer> depths = new TreeMap<>();
        final Map<Integer, Integer> sizes = new TreeMap<>();
        final Map<Integer, Integer> rises = new TreeMap<>();
        List<TreeSet<Integer>> lumps = new ArrayList<>();

        Now twin() {
            Now twin = new Now();
            twin.minute = minute;
            twin.heat = heat;
            twin.depths.putAll(depths);
            twin.sizes.putAll(sizes);
            twin.rises.putAll(rises);
            for (TreeSet<Integer> lump : lumps) {
                twin.lumps.add(new TreeSet<>(lump));
            }
            return twin;
        }

        TreeSet<Integer> lumpOf(int d) {
            for (TreeSet<Integer> lump : lumps) {
                if (lump.contains(d)) {
                    return lump;
                }
            }
            throw new IllegalStateException();
        }

        List<Integer> ranks() {
            List<Integer> ranks = new ArrayList<>(rises.keySet());
            ranks.sort(Comparator.comparing((Integer d) -> rises.get(d)).thenComparing(d -> d));
            return ranks;
        }
    }

    private String text = "";
    private List<Told> told = new ArrayList<>();
    private int heat = 3, glue = 1, room = 20;
    private Now now = new Now();
    private final Deque<Now> past = new ArrayDeque<>();
    private final Now[] images = new Now[2];
    private final List<Seen> seen = new ArrayList<>();
    private long traced;

    Model() {
        now.heat = heat;
    }

    private boolean in(int n, int low, int high) {
        return n >= low && n <= high;
    }

    private boolean one(int d) {
        return in(d, 0, told.size() - 1);
    }

    private static int bits(Iterable<Integer> set) {
        int bits = 0;
        for (int d : set) {
            bits |= 1 << d;
        }
        return bits;
    }

    private List<Integer> dry(Now at) {
        List<Integer> dry = new ArrayList<>();
        for (int d = 0; d < told.size(); d++) {
            if (!at.depths.containsKey(d)) {
                dry.add(d);
            }
        }
        return dry;
    }

    private List<Integer> up(Now at) {
        List<Integer> up = new ArrayList<>();
        at.depths.forEach((d, depth) -> {
            if (depth == 0) {
                up.add(d);
            }
        });
        return up;
    }

    private void pass(Now at) {
        at.minute++;
        for (int d : at.depths.keySet()) {
            at.sizes.merge(d, told.get(d).swell, (a, b) -> Math.min(30, a + b));
        }
        for (TreeSet<Integer> lump : at.lumps) {
            if (!at.depths.containsKey(lump.first())) {
                continue;
            }
            int lift = 0;
            for (int d : lump) {
                lift += at.sizes.get(d) + at.heat - told.get(d).weight;
            }
            for (int d : lump) {
                at.depths.put(d, Math.max(0, Math.min(10, at.depths.get(d) - Integer.signum(lift))));
            }
        }
        for (int d = 0; d < told.size(); d++) {
            for (int e = d + 1; e < told.size(); e++) {
                Integer depth = at.depths.get(d);
                if (depth == null || !depth.equals(at.depths.get(e)) || !in(depth, 1, 9)) {
                    continue;
                }
                TreeSet<Integer> own = at.lumpOf(d);
                TreeSet<Integer> other = at.lumpOf(e);
                if (own != other && Math.abs(at.sizes.get(d) - at.sizes.get(e)) <= glue) {
                    own.addAll(other);
                    at.lumps.removeIf(lump -> lump == other);
                }
            }
        }
        for (int d : up(at)) {
            at.rises.putIfAbsent(d, at.minute);
        }
    }

    int type(int letter) {
        if (!in(letter, 0, 255)) {
            return BAD;
        }
        if (text.length() == 120) {
            return FULL;
        }
        text += (char) letter;
        return text.length();
    }

    int clear() {
        int had = text.length();
        text = "";
        return had;
    }

    private static final Pattern TOKEN = Pattern.compile(" *([0-9]+|[^0-9 ])", Pattern.DOTALL);

    int pot() {
        List<Told> ones = new ArrayList<>();
        Map<Character, Integer> set = new TreeMap<>();
        List<String> tokens = new ArrayList<>();
        List<Integer> places = new ArrayList<>();
        Matcher m = TOKEN.matcher(text);
        while (m.find()) {
            tokens.add(m.group(1));
            places.add(m.start(1));
        }
        tokens.add("end");
        places.add(text.length());
        int i = 0;
        int items = 0;
        while (!tokens.get(i).equals("end")) {
            String sign = tokens.get(i);
            boolean again = sign.equals("d") ? ones.size() == 6 : set.containsKey(sign.charAt(0));
            if (!List.of("d", "h", "g", "r").contains(sign) || again) {
                return -10 - places.get(i);
            }
            int[][] ranges = sign.equals("d") ? new int[][] {{0, 40}, {1, 9}, {0, 3}, {0, 9}}
                    : sign.equals("r") ? new int[][] {{9, 40}} : new int[][] {{0, 9}};
            List<Integer> numbers = new ArrayList<>();
            for (int[] range : ranges) {
                i++;
                String number = tokens.get(i);
                if (!number.matches("0|[1-9][0-9]?") || !in(Integer.parseInt(number), range[0], range[1])) {
                    return -10 - places.get(i);
                }
                numbers.add(Integer.parseInt(number));
            }
            i++;
            if (!tokens.get(i).equals(";")) {
                return -10 - places.get(i);
            }
            i++;
            items++;
            if (sign.equals("d")) {
                ones.add(new Told(numbers.get(0), numbers.get(1), numbers.get(2), numbers.get(3)));
            } else {
                set.put(sign.charAt(0), numbers.get(0));
            }
        }
        told = ones;
        heat = set.getOrDefault('h', 3);
        glue = set.getOrDefault('g', 1);
        room = set.getOrDefault('r', 20);
        now = new Now();
        now.heat = heat;
        for (int d = 0; d < told.size(); d++) {
            now.sizes.put(d, told.get(d).size);
            now.lumps.add(new TreeSet<>(List.of(d)));
        }
        past.clear();
        seen.clear();
        images[0] = null;
        images[1] = null;
        text = "";
        return items;
    }

    int dumpling(int d, int what) {
        if (!one(d) || !in(what, 0, 6)) {
            return BAD;
        }
        Told t = told.get(d);
        return List.of(t.weight, now.sizes.get(d), t.swell, t.seats, now.depths.getOrDefault(d, NONE),
                bits(now.lumpOf(d)), now.rises.getOrDefault(d, NONE)).get(what);
    }

    int now(int what) {
        if (!in(what, 0, 6)) {
            return BAD;
        }
        return List.of(now.minute, now.heat, bits(dry(now)), bits(up(now)), now.rises.size(), pots(),
                past.size()).get(what);
    }

    /** Puts one behind another into any pot that has room, or into a new one. */
    private int fewest(int d, List<Integer> free) {
        if (d == told.size()) {
            return free.size();
        }
        int size = now.sizes.get(d);
        List<Integer> more = new ArrayList<>(free);
        more.add(room - size);
        int best = fewest(d + 1, more);
        for (int i = 0; i < free.size(); i++) {
            if (free.get(i) >= size) {
                List<Integer> used = new ArrayList<>(free);
                used.set(i, free.get(i) - size);
                best = Math.min(best, fewest(d + 1, used));
            }
        }
        return best;
    }

    private int pots() {
        for (int size : now.sizes.values()) {
            if (size > room) {
                return NONE;
            }
        }
        return fewest(0, new ArrayList<>());
    }

    int order(int k) {
        if (!in(k, 0, 5)) {
            return BAD;
        }
        List<Integer> ranks = now.ranks();
        return k < ranks.size() ? ranks.get(k) : NONE;
    }

    private void doing() {
        past.addLast(now.twin());
        if (past.size() > 10) {
            past.removeFirst();
        }
    }

    int drops(int d) {
        if (!one(d)) {
            return BAD;
        }
        if (now.depths.containsKey(d)) {
            return STATE;
        }
        doing();
        now.depths.put(d, 10);
        return now.depths.size();
    }

    int minute() {
        if (now.minute == 99) {
            return STATE;
        }
        doing();
        pass(now);
        return up(now).size();
    }

    int heats(int n) {
        if (!in(n, 0, 9)) {
            return BAD;
        }
        if (n == now.heat) {
            return STATE;
        }
        doing();
        int was = now.heat;
        now.heat = n;
        return was;
    }

    int skewers(int d) {
        if (!one(d)) {
            return BAD;
        }
        if (!now.depths.containsKey(d)) {
            return STATE;
        }
        doing();
        TreeSet<Integer> lump = now.lumpOf(d);
        now.lumps.removeIf(l -> l == lump);
        for (int e : lump) {
            now.lumps.add(new TreeSet<>(List.of(e)));
        }
        now.sizes.put(d, Math.max(1, now.sizes.get(d) / 2));
        return now.sizes.get(d);
    }

    int dips(int d) {
        if (!one(d)) {
            return BAD;
        }
        if (now.depths.getOrDefault(d, NONE) != 0) {
            return STATE;
        }
        doing();
        now.depths.remove(d);
        now.lumpOf(d).remove(d);
        now.lumps.removeIf(TreeSet::isEmpty);
        now.lumps.add(new TreeSet<>(List.of(d)));
        return dry(now).size();
    }

    int undo() {
        if (past.isEmpty()) {
            return STATE;
        }
        now = past.removeLast();
        return past.size();
    }

    int deep(int d, int n) {
        if (!one(d) || !in(n, 0, 40)) {
            return BAD;
        }
        Now at = now.twin();
        for (int i = 0; i < n; i++) {
            pass(at);
        }
        return at.depths.getOrDefault(d, NONE);
    }

    int when(int d) {
        if (!one(d)) {
            return BAD;
        }
        if (!now.depths.containsKey(d)) {
            return STATE;
        }
        for (int n = 0; n <= 40; n++) {
            if (deep(d, n) == 0) {
                return n;
            }
        }
        return NONE;
    }

    int warm(int d, int n) {
        if (!one(d) || !in(n, 1, 40)) {
            return BAD;
        }
        if (!now.depths.containsKey(d)) {
            return STATE;
        }
        for (int h = 0; h <= 9; h++) {
            Now at = now.twin();
            at.heat = h;
            for (int i = 0; i <= n; i++) {
                if (at.depths.get(d) == 0) {
                    return h;
                }
                pass(at);
            }
        }
        return NONE;
    }

    /** All sets of these, those of fewest first, of several the least bits first. */
    private static List<Integer> setsOf(int all) {
        List<Integer> sets = new ArrayList<>();
        for (int set = 0; set < 64; set++) {
            if ((set | all) == all) {
                sets.add(set);
            }
        }
        sets.sort(Comparator.comparing((Integer set) -> Integer.bitCount(set)).thenComparing(set -> set));
        return sets;
    }

    int kept(int d, int n) {
        if (!one(d) || !in(n, 1, 40)) {
            return BAD;
        }
        if (now.depths.containsKey(d) || now.rises.containsKey(d)) {
            return STATE;
        }
        for (int set : setsOf(bits(dry(now)) & ~(1 << d))) {
            Now at = now.twin();
            for (int e : dry(now)) {
                if ((set >> e & 1) == 0) {
                    at.depths.put(e, 10);
                }
            }
            for (int i = 0; i < n; i++) {
                pass(at);
            }
            List<Integer> ranks = at.ranks();
            ranks.removeAll(now.rises.keySet());
            if (!ranks.isEmpty() && ranks.get(0) == d) {
                return set;
            }
        }
        return NONE;
    }

    private int seats(int set) {
        int sum = 0;
        for (int d = 0; d < told.size(); d++) {
            sum += (set >> d & 1) * told.get(d).seats;
        }
        return sum;
    }

    int party(int q) {
        if (!in(q, 1, 54)) {
            return BAD;
        }
        for (int set : setsOf((1 << told.size()) - 1)) {
            if (seats(set) >= q) {
                return set;
            }
        }
        return NONE;
    }

    int power(int d, int q) {
        if (!one(d) || !in(q, 1, 54)) {
            return BAD;
        }
        int decided = 0;
        for (int set : setsOf((1 << told.size()) - 1 & ~(1 << d))) {
            decided += seats(set) < q && seats(set | 1 << d) >= q ? 1 : 0;
        }
        return decided;
    }

    int odds(int x, int k, int what) {
        if (!in(x, 0, 10) || !in(k, 0, 6) || !in(what, 0, 1)) {
            return BAD;
        }
        List<BigInteger> ways = new ArrayList<>(List.of(BigInteger.ONE));
        for (int i = 0; i < now.depths.size(); i++) {
            List<BigInteger> next = new ArrayList<>(Collections.nCopies(ways.size() + 1, BigInteger.ZERO));
            for (int j = 0; j < ways.size(); j++) {
                next.set(j, next.get(j).add(ways.get(j).multiply(BigInteger.valueOf(10 - x))));
                next.set(j + 1, next.get(j + 1).add(ways.get(j).multiply(BigInteger.valueOf(x))));
            }
            ways = next;
        }
        BigInteger upper = BigInteger.ZERO;
        for (int j = 0; j < ways.size() && j <= k; j++) {
            upper = upper.add(ways.get(j));
        }
        BigInteger lower = BigInteger.TEN.pow(now.depths.size());
        BigInteger gcd = upper.gcd(lower);
        return (what == 0 ? upper : lower).divide(gcd).intValueExact();
    }

    int sees(int d, int m, int v) {
        if (!one(d) || !in(m, 1, 20) || !in(v, 0, 10)) {
            return BAD;
        }
        if (seen.size() == 6) {
            return FULL;
        }
        seen.add(new Seen(d, m, v));
        return seen.size();
    }

    int forget() {
        int was = seen.size();
        seen.clear();
        return was;
    }

    private int alone(int d, int weight, int m) {
        int depth = 10;
        for (int i = 1; i <= m; i++) {
            int size = Math.min(30, now.sizes.get(d) + i * told.get(d).swell);
            depth = Math.max(0, Math.min(10, depth - Integer.signum(size + now.heat - weight)));
        }
        return depth;
    }

    private List<Integer> fitting(int d) {
        List<Integer> fitting = new ArrayList<>();
        for (int w = 0; w <= 40; w++) {
            int weight = w;
            if (seen.stream().allMatch(s -> s.d != d || alone(d, weight, s.m) == s.v)) {
                fitting.add(w);
            }
        }
        return fitting;
    }

    int weights(int d, int what) {
        if (!one(d) || !in(what, 0, 2)) {
            return BAD;
        }
        List<Integer> fitting = fitting(d);
        if (what == 0) {
            return fitting.size();
        }
        if (fitting.isEmpty()) {
            return NONE;
        }
        return what == 1 ? Collections.min(fitting) : Collections.max(fitting);
    }

    int look(int d) {
        if (!one(d)) {
            return BAD;
        }
        List<Integer> fitting = fitting(d);
        if (fitting.size() < 2) {
            return NONE;
        }
        TreeMap<Integer, Integer> byGreatest = new TreeMap<>();
        for (int m = 1; m <= 20; m++) {
            Map<Integer, Integer> alike = new TreeMap<>();
            for (int w : fitting) {
                alike.merge(alone(d, w, m), 1, Integer::sum);
            }
            byGreatest.putIfAbsent(Collections.max(alike.values()), m);
        }
        return byGreatest.firstEntry().getValue();
    }

    int rate(int kind, int d) {
        if (!one(d) || !in(kind, 0, 5)) {
            return NO;
        }
        int size = now.sizes.get(d);
        int weight = told.get(d).weight;
        int lump = now.lumpOf(d).size();
        traced += List.of(1, 11, 101, 1011, 10101, 100001).get(kind);
        return List.of(size, size + weight, size - lump, 2 * (size + weight), size - lump + d,
                size + now.heat).get(kind);
    }

    int keep(int image) {
        if (!in(image, 0, 1)) {
            return BAD;
        }
        images[image] = now.twin();
        return now.minute;
    }

    int back(int image) {
        if (!in(image, 0, 1)) {
            return BAD;
        }
        if (images[image] == null) {
            return STATE;
        }
        now = images[image].twin();
        past.clear();
        return now.minute;
    }

    int count(int what) {
        if (!in(what, 0, 5)) {
            return BAD;
        }
        return List.of(told.size(), heat, glue, room, seen.size(), text.length()).get(what);
    }

    long trace() {
        return traced;
    }
}
