import java.math.BigInteger;
import java.util.ArrayList;
import java.util.Arrays;
import java.util.Comparator;
import java.util.HashMap;
import java.util.List;
import java.util.Map;

/**
 * The document once more, as plainly as can be and by other ways than the class: every matching is tried, ways
 * are cut by fractions, beds are found by merging until nothing changes. Only for borings of few layers.
 */
public final class PlainModel {
    private record Layer(int boring, int number) { }

    private record Fraction(BigInteger upper, BigInteger lower) {
        static Fraction of(long upper, long lower) {
            BigInteger u = BigInteger.valueOf(upper);
            BigInteger l = BigInteger.valueOf(lower);
            BigInteger g = u.gcd(l);
            if (l.signum() < 0) {
                g = g.negate();
            }
            return new Fraction(u.divide(g), l.divide(g));
        }
    }

    private static final class Boring {
        int x;
        int y;
        int top;
        List<int[]> layers = new ArrayList<>();

        int level(int layer) {
            int level = top;
            for (int k = 0; k < layer; k++) {
                level -= layers.get(k)[1];
            }
            return level;
        }
    }

    private List<Boring> borings = new ArrayList<>();
    private final List<int[]> faults = new ArrayList<>();
    private final Map<List<Integer>, Integer> waters = new HashMap<>();
    private final int[] ages = new int[8];
    private int lens = 50;
    private int within = 0;
    private boolean ran = false;
    private StringBuilder text = new StringBuilder();
    private String written = "";

    private List<int[]> edges = new ArrayList<>();
    private List<int[]> triangles = new ArrayList<>();
    private Map<List<Integer>, int[]> matchings = new HashMap<>();
    private Map<List<Integer>, Integer> sums = new HashMap<>();
    private List<List<Layer>> beds = new ArrayList<>();

    private static boolean in(long v, long least, long most) {
        return v >= least && v <= most;
    }

    private static boolean place(int x, int y) {
        return in(x, -1000, 1000) && in(y, -1000, 1000);
    }

    private static void argument(boolean good) {
        if (!good) {
            throw new IllegalArgumentException();
        }
    }

    private static void index(int k, int size) {
        if (!in(k, 0, size - 1)) {
            throw new IndexOutOfBoundsException();
        }
    }

    private void state() {
        if (!ran) {
            throw new IllegalStateException();
        }
    }

    private boolean taken(List<Boring> some, int x, int y) {
        return some.stream().anyMatch(b -> b.x == x && b.y == y);
    }

    public int boring(int x, int y, int top) {
        argument(place(x, y) && in(top, -100000, 100000) && !taken(borings, x, y));
        if (borings.size() == 16) {
            throw new UnsupportedOperationException();
        }
        Boring b = new Boring();
        b.x = x;
        b.y = y;
        b.top = top;
        borings.add(b);
        ran = false;
        return borings.size() - 1;
    }

    public int layer(int boring, int kind, int thickness) {
        index(boring, borings.size());
        argument(in(kind, 0, 7) && in(thickness, 1, 10000));
        List<int[]> layers = borings.get(boring).layers;
        if (layers.size() == 12) {
            throw new UnsupportedOperationException();
        }
        layers.add(new int[] {kind, thickness});
        ran = false;
        return layers.size() - 1;
    }

    public boolean age(int kind, int age) {
        if (!in(kind, 0, 7) || !in(age, 0, 99)) {
            return false;
        }
        ages[kind] = age;
        ran = false;
        return true;
    }

    public boolean fault(int x0, int y0, int x1, int y1) {
        if (!place(x0, y0) || !place(x1, y1) || x0 == x1 && y0 == y1 || faults.size() == 8) {
            return false;
        }
        faults.add(new int[] {x0, y0, x1, y1});
        ran = false;
        return true;
    }

    public boolean lens(int hundredths) {
        if (in(hundredths, 1, 100)) {
            lens = hundredths;
            return true;
        }
        return false;
    }

    public boolean water(int boring, int week, int level) {
        List<Integer> key = List.of(boring, week);
        if (!in(boring, 0, borings.size() - 1) || !in(week, 0, 99) || !in(level, -100000, 100000)
                || waters.size() == 60 && !waters.containsKey(key)) {
            return false;
        }
        waters.put(key, level);
        return true;
    }

    public boolean within(int v) {
        if (in(v, 0, 10000)) {
            within = v;
            return true;
        }
        return false;
    }

    // A way is x, y of one end and of the other; the points in common are looked for by fractions.
    private static boolean meet(int[] p, int[] q) {
        long px = p[2] - p[0];
        long py = p[3] - p[1];
        long qx = q[2] - q[0];
        long qy = q[3] - q[1];
        long dx = q[0] - p[0];
        long dy = q[1] - p[1];
        long det = px * qy - py * qx;
        if (det != 0) {
            long s = dx * qy - dy * qx;
            long t = dx * py - dy * px;
            return det > 0 ? in(s, 0, det) && in(t, 0, det) : in(s, det, 0) && in(t, det, 0);
        }
        if (px * dy - py * dx != 0) {
            return false;
        }
        long length = px * px + py * py;
        long from = dx * px + dy * py;
        long to = from + qx * px + qy * py;
        return Math.max(from, to) >= 0 && Math.min(from, to) <= length;
    }

    private int[] way(int a, int b) {
        return new int[] {borings.get(a).x, borings.get(a).y, borings.get(b).x, borings.get(b).y};
    }

    private long square(int a, int b) {
        int[] w = way(a, b);
        return (long) (w[0] - w[2]) * (w[0] - w[2]) + (long) (w[1] - w[3]) * (w[1] - w[3]);
    }

    private static boolean onWay(int[] way, int x, int y) {
        double whole = Math.hypot(way[0] - way[2], way[1] - way[3]);
        double parts = Math.hypot(way[0] - x, way[1] - y) + Math.hypot(way[2] - x, way[3] - y);
        long cross = (long) (way[2] - way[0]) * (y - way[1]) - (long) (way[3] - way[1]) * (x - way[0]);
        return cross == 0 && parts - whole < 1e-6;
    }

    private void net() {
        edges = new ArrayList<>();
        List<int[]> pairs = new ArrayList<>();
        for (int a = 0; a < borings.size(); a++) {
            for (int b = a + 1; b < borings.size(); b++) {
                pairs.add(new int[] {a, b});
            }
        }
        pairs.sort(Comparator.<int[]>comparingLong(p -> square(p[0], p[1]))
                .thenComparingInt(p -> p[0]).thenComparingInt(p -> p[1]));
        for (int[] pair : pairs) {
            if (free(pair[0], pair[1])) {
                int[] way = way(pair[0], pair[1]);
                boolean broken = faults.stream().anyMatch(f -> meet(way, f));
                edges.add(new int[] {pair[0], pair[1], broken ? 1 : 0});
            }
        }
    }

    private boolean free(int a, int b) {
        int[] way = way(a, b);
        for (int k = 0; k < borings.size(); k++) {
            if (k != a && k != b && onWay(way, borings.get(k).x, borings.get(k).y)) {
                return false;
            }
        }
        for (int[] e : edges) {
            boolean common = e[0] == a || e[0] == b || e[1] == a || e[1] == b;
            if (!common && meet(way, way(e[0], e[1]))) {
                return false;
            }
        }
        return true;
    }

    private boolean neighbours(int a, int b) {
        return edges.stream().anyMatch(e -> e[2] == 0
                && (e[0] == a && e[1] == b || e[0] == b && e[1] == a));
    }

    private long area(int ax, int ay, int bx, int by, int cx, int cy) {
        return Math.abs((long) ax * (by - cy) + (long) bx * (cy - ay) + (long) cx * (ay - by));
    }

    private long area(int[] t) {
        Boring a = borings.get(t[0]);
        Boring b = borings.get(t[1]);
        Boring c = borings.get(t[2]);
        return area(a.x, a.y, b.x, b.y, c.x, c.y);
    }

    // In it or on its sides: the three triangles with the place have just its area together.
    private long[] parts(int[] t, int x, int y) {
        Boring a = borings.get(t[0]);
        Boring b = borings.get(t[1]);
        Boring c = borings.get(t[2]);
        return new long[] {area(x, y, b.x, b.y, c.x, c.y), area(a.x, a.y, x, y, c.x, c.y),
            area(a.x, a.y, b.x, b.y, x, y)};
    }

    private boolean holds(int[] t, int x, int y) {
        long[] parts = parts(t, x, y);
        return parts[0] + parts[1] + parts[2] == area(t);
    }

    private void triangles() {
        triangles = new ArrayList<>();
        int n = borings.size();
        for (int a = 0; a < n; a++) {
            for (int b = a + 1; b < n; b++) {
                for (int c = b + 1; c < n; c++) {
                    int[] t = {a, b, c};
                    if (neighbours(a, b) && neighbours(a, c) && neighbours(b, c) && area(t) != 0 && bare(t)) {
                        triangles.add(t);
                    }
                }
            }
        }
    }

    private boolean bare(int[] t) {
        for (int k = 0; k < borings.size(); k++) {
            if (k != t[0] && k != t[1] && k != t[2] && holds(t, borings.get(k).x, borings.get(k).y)) {
                return false;
            }
        }
        return true;
    }

    private int[] best;
    private int bestSum;

    private void tryAll(Boring a, Boring b, int[] chosen, int i, int free) {
        if (i == a.layers.size()) {
            int sum = cost(a, b, chosen);
            if (best == null || sum < bestSum || sum == bestSum && better(chosen, best)) {
                best = chosen.clone();
                bestSum = sum;
            }
            return;
        }
        chosen[i] = -1;
        tryAll(a, b, chosen, i + 1, free);
        for (int k = free; k < b.layers.size(); k++) {
            chosen[i] = k;
            tryAll(a, b, chosen, i + 1, k + 1);
        }
    }

    private static boolean better(int[] one, int[] other) {
        for (int k = 0; k < one.length; k++) {
            if (one[k] != other[k]) {
                return other[k] == -1 || one[k] != -1 && one[k] < other[k];
            }
        }
        return false;
    }

    private int cost(Boring a, Boring b, int[] chosen) {
        int sum = 0;
        for (int[] layer : b.layers) {
            sum += layer[1];
        }
        for (int i = 0; i < chosen.length; i++) {
            int[] here = a.layers.get(i);
            if (chosen[i] == -1) {
                sum += here[1];
                continue;
            }
            int[] there = b.layers.get(chosen[i]);
            sum += Math.abs(here[1] - there[1]) - there[1];
            if (here[0] != there[0]) {
                sum += 100 + 50 * Math.abs(ages[here[0]] - ages[there[0]]);
            }
        }
        return sum;
    }

    private void matchings() {
        matchings = new HashMap<>();
        sums = new HashMap<>();
        for (int[] e : edges) {
            if (e[2] == 1) {
                continue;
            }
            Boring a = borings.get(e[0]);
            best = null;
            tryAll(a, borings.get(e[1]), new int[a.layers.size()], 0, 0);
            matchings.put(List.of(e[0], e[1]), best);
            sums.put(List.of(e[0], e[1]), bestSum);
        }
    }

    private void beds() {
        List<List<Layer>> all = new ArrayList<>();
        for (int b = 0; b < borings.size(); b++) {
            for (int k = 0; k < borings.get(b).layers.size(); k++) {
                all.add(new ArrayList<>(List.of(new Layer(b, k))));
            }
        }
        for (Map.Entry<List<Integer>, int[]> m : matchings.entrySet()) {
            for (int i = 0; i < m.getValue().length; i++) {
                if (m.getValue()[i] != -1) {
                    List<Layer> one = with(all, m.getKey().get(0), i);
                    List<Layer> other = with(all, m.getKey().get(1), m.getValue()[i]);
                    if (one != other) {
                        one.addAll(other);
                        all.removeIf(bed -> bed == other);
                    }
                }
            }
        }
        Comparator<Layer> order = Comparator.comparingInt(Layer::boring).thenComparingInt(Layer::number);
        all.forEach(bed -> bed.sort(order));
        all.sort((p, q) -> order.compare(p.get(0), q.get(0)));
        beds = all;
    }

    private static List<Layer> with(List<List<Layer>> all, int boring, int layer) {
        return all.stream().filter(bed -> bed.contains(new Layer(boring, layer))).findFirst().orElseThrow();
    }

    public int run() {
        net();
        triangles();
        matchings();
        beds();
        ran = true;
        return beds.size();
    }

    public int count(int what) {
        if (what >= 3 && what <= 6) {
            state();
        }
        return switch (what) {
            case 0 -> borings.size();
            case 1 -> faults.size();
            case 2 -> waters.size();
            case 3 -> edges.size();
            case 4 -> (int) edges.stream().filter(e -> e[2] == 1).count();
            case 5 -> triangles.size();
            case 6 -> beds.size();
            default -> -1;
        };
    }

    public int edge(int k, int what) {
        state();
        index(k, edges.size());
        argument(in(what, 0, 2));
        return edges.get(k)[what];
    }

    public int triangle(int k, int what) {
        state();
        index(k, triangles.size());
        argument(in(what, 0, 2));
        return triangles.get(k)[what];
    }

    private int partner(int a, int b, int layer) {
        if (a < b) {
            return matchings.get(List.of(a, b))[layer];
        }
        int[] matching = matchings.get(List.of(b, a));
        for (int k = 0; k < matching.length; k++) {
            if (matching[k] == layer) {
                return k;
            }
        }
        return -1;
    }

    public int match(int a, int b, int layer) {
        state();
        index(a, borings.size());
        index(b, borings.size());
        index(layer, borings.get(a).layers.size());
        argument(neighbours(a, b));
        return partner(a, b, layer);
    }

    public int sum(int a, int b) {
        state();
        index(a, borings.size());
        index(b, borings.size());
        argument(neighbours(a, b));
        return sums.get(List.of(Math.min(a, b), Math.max(a, b)));
    }

    public int section(int a, int b, int k, int what) {
        state();
        index(a, borings.size());
        index(b, borings.size());
        argument(neighbours(a, b));
        List<int[]> rows = new ArrayList<>();
        int behind = 0;
        List<Integer> endsOfA = new ArrayList<>();
        int n = borings.get(a).layers.size();
        for (int i = 0; i <= n; i++) {
            int partner = i == n ? borings.get(b).layers.size() : partner(a, b, i);
            if (partner == -1) {
                endsOfA.add(i);
                continue;
            }
            endsOfA.forEach(e -> rows.add(new int[] {e, -1}));
            endsOfA.clear();
            for (int j = behind; j < partner; j++) {
                rows.add(new int[] {-1, j});
            }
            behind = partner + 1;
            if (i < n) {
                rows.add(new int[] {i, partner});
            }
        }
        index(k, rows.size());
        argument(in(what, 0, 1));
        return rows.get(k)[what];
    }

    public boolean crosses() {
        state();
        return false;
    }

    public int bed(int k, int what) {
        state();
        index(k, beds.size());
        argument(in(what, 0, 4));
        List<Layer> bed = beds.get(k);
        Layer first = bed.get(0);
        return switch (what) {
            case 0 -> kind(k);
            case 1 -> (int) bed.stream().map(Layer::boring).distinct().count();
            case 2 -> bed.size();
            case 3 -> first.boring();
            default -> first.number();
        };
    }

    private int kind(int bed) {
        Layer first = beds.get(bed).get(0);
        return borings.get(first.boring()).layers.get(first.number())[0];
    }

    public int bedOf(int boring, int layer) {
        state();
        index(boring, borings.size());
        index(layer, borings.get(boring).layers.size());
        return beds.indexOf(with(beds, boring, layer));
    }

    private Integer bedLevel(int bed, int boring) {
        return beds.get(bed).stream().filter(l -> l.boring() == boring).findFirst()
                .map(l -> borings.get(boring).level(l.number())).orElse(null);
    }

    private Fraction level(Integer[] levels, int x, int y) {
        if (levels.length == 1 && levels[0] != null) {
            return Fraction.of(levels[0], 1);
        }
        for (int b = 0; b < levels.length; b++) {
            if (levels[b] != null && borings.get(b).x == x && borings.get(b).y == y) {
                return Fraction.of(levels[b], 1);
            }
        }
        for (int[] t : triangles) {
            if (holds(t, x, y) && levels[t[0]] != null && levels[t[1]] != null && levels[t[2]] != null) {
                long[] parts = parts(t, x, y);
                long sum = 0;
                for (int k = 0; k < 3; k++) {
                    sum += parts[k] * levels[t[k]];
                }
                return Fraction.of(sum, area(t));
            }
        }
        return null;
    }

    private static long part(Fraction f, int part) {
        if (f == null) {
            return 0;
        }
        return (part == 0 ? f.upper() : f.lower()).longValueExact();
    }

    private Fraction bedAt(int bed, int x, int y) {
        Integer[] levels = new Integer[borings.size()];
        Arrays.setAll(levels, b -> bedLevel(bed, b));
        return level(levels, x, y);
    }

    public long at(int bed, int x, int y, int part) {
        state();
        index(bed, beds.size());
        argument(place(x, y) && in(part, 0, 1));
        return part(bedAt(bed, x, y), part);
    }

    public long wet(int week, int x, int y, int part) {
        state();
        argument(in(week, 0, 99) && place(x, y) && in(part, 0, 1));
        Integer[] levels = new Integer[borings.size()];
        Arrays.setAll(levels, b -> waters.get(List.of(b, week)));
        return part(level(levels, x, y), part);
    }

    public long volume(int kind, int x0, int y0, int x1, int y1) {
        state();
        argument(in(kind, 0, 7));
        BigInteger all = BigInteger.ZERO;
        for (int[] t : triangles) {
            boolean inBox = true;
            for (int b : t) {
                inBox &= in(borings.get(b).x, x0, x1) && in(borings.get(b).y, y0, y1);
            }
            for (int bed = 0; bed < beds.size() && inBox; bed++) {
                if (kind(bed) == kind) {
                    all = all.add(volume(bed, t));
                }
            }
        }
        return all.longValueExact();
    }

    private BigInteger volume(int bed, int[] t) {
        int having = 0;
        long thickness = 0;
        for (int b : t) {
            long here = 0;
            for (Layer l : beds.get(bed)) {
                here += l.boring() == b ? borings.get(b).layers.get(l.number())[1] : 0;
            }
            having += here > 0 ? 1 : 0;
            thickness += here;
        }
        long factor = switch (having) {
            case 3 -> 120000 / 6;
            case 2 -> 120000 / 120000 * (300 * lens - lens * lens);
            case 1 -> 120000 / 60000 * lens * lens;
            default -> 0;
        };
        return BigInteger.valueOf(area(t)).multiply(BigInteger.valueOf(thickness)).multiply(BigInteger.valueOf(factor));
    }

    public int later(int x, int y, int kind, int level) {
        state();
        argument(place(x, y) && in(kind, 0, 7) && in(level, -100000, 100000));
        int answer = 2;
        for (int bed = 0; bed < beds.size(); bed++) {
            Fraction there = kind(bed) == kind ? bedAt(bed, x, y) : null;
            if (there == null) {
                continue;
            }
            BigInteger off = there.upper().subtract(there.lower().multiply(BigInteger.valueOf(level))).abs();
            boolean near = off.compareTo(there.lower().multiply(BigInteger.valueOf(within))) <= 0;
            answer = Math.min(answer, near ? 0 : 1);
        }
        return answer;
    }

    public int doubt(int x, int y) {
        int nearest = -1;
        long least = Long.MAX_VALUE;
        for (int b = borings.size() - 1; b >= 0 && place(x, y); b--) {
            long dx = borings.get(b).x - x;
            long dy = borings.get(b).y - y;
            if (dx * dx + dy * dy <= least) {
                least = dx * dx + dy * dy;
                nearest = b;
            }
        }
        return nearest;
    }

    public boolean unit(int c) {
        if (c != 10 && !in(c, 32, 126) || text.length() == 600) {
            return false;
        }
        text.append((char) c);
        return true;
    }

    public int read() {
        List<String> words = new ArrayList<>();
        for (String word : text.toString().split("[ \n]+")) {
            if (!word.isEmpty()) {
                words.add(word);
            }
        }
        text = new StringBuilder();
        List<Boring> all = new ArrayList<>(borings);
        int place = 0;
        Boring open = null;
        for (int k = 0; k < words.size(); k++) {
            String word = words.get(k);
            Integer n = word.matches("-?[0-9]{1,6}") ? Integer.valueOf(word) : null;
            boolean good;
            if (place == 0) {
                good = word.equals("b") && all.size() < 16;
                open = new Boring();
            } else if (place == 1) {
                good = n != null && in(n, -1000, 1000);
                open.x = good ? n : 0;
            } else if (place == 2) {
                good = n != null && in(n, -1000, 1000) && !taken(all, open.x, n);
                open.y = good ? n : 0;
            } else if (place == 3) {
                good = n != null && in(n, -100000, 100000);
                open.top = good ? n : 0;
            } else if (place % 2 == 0 && word.equals("e")) {
                good = true;
                all.add(open);
                place = -1;
            } else if (place % 2 == 0) {
                good = n != null && in(n, 0, 7) && open.layers.size() < 12;
                open.layers.add(new int[] {good ? n : 0, 0});
            } else {
                good = n != null && in(n, 1, 10000);
                open.layers.get(open.layers.size() - 1)[1] = good ? n : 0;
            }
            if (!good) {
                return -1 - k;
            }
            place++;
        }
        if (place != 0) {
            return -1 - words.size();
        }
        int taken = all.size() - borings.size();
        borings = all;
        ran &= taken == 0;
        return taken;
    }

    public int write(int boring) {
        index(boring, borings.size());
        Boring b = borings.get(boring);
        List<String> words = new ArrayList<>(List.of("b", "" + b.x, "" + b.y, "" + b.top));
        b.layers.forEach(l -> words.addAll(List.of("" + l[0], "" + l[1])));
        words.add("e");
        written = String.join(" ", words);
        return written.length();
    }

    public char letter(int i) {
        return in(i, 0, written.length() - 1) ? written.charAt(i) : 0;
    }
}
