import java.util.Arrays;

/**
 * Borings joined to beds: a net of neighbours, the least matching of the layers of each two, beds, their
 * levels and volumes, water, later findings and texts of borings.
 *
 * <p>Every row is made in the constructor and used again: beside exceptions, only the text written may still grow.
 */
public final class LayerJoins {
    public static final int NONE = -1;

    private static final int MOST_BORINGS = 16;
    private static final int MOST_LAYERS = 12;
    private static final int MOST_SLOTS = MOST_BORINGS * MOST_LAYERS;
    private static final int MOST_FAULTS = 8;
    private static final int MOST_WATERS = 60;
    private static final int MOST_UNITS = 600;
    private static final int MOST_DIGITS = 6;
    private static final int MOST_PAIRS = MOST_BORINGS * (MOST_BORINGS - 1) / 2;
    private static final int MOST_ROWS = 2 * MOST_LAYERS;

    // Ways between n places that meet in places alone are at most 3 n - 6 and bound at most 2 n - 5 triangles.
    private static final int MOST_EDGES = 3 * MOST_BORINGS - 6;
    private static final int MOST_TRIANGLES = 2 * MOST_BORINGS - 5;

    private static final int LAST_KIND = 7;
    private static final int LAST_AGE = 99;
    private static final int LAST_WEEK = 99;
    private static final int FARTHEST = 1000;
    private static final int HIGHEST = 100000;
    private static final int THICKEST = 10000;
    private static final int FULL_LENS = 100;
    private static final int FIRST_LENS = 50;
    private static final int MOST_WITHIN = 10000;

    private static final int OTHER_KIND_COST = 100;
    private static final int AGE_COST = 50;

    // Below every level: the lowest top less twelve of the thickest layers is still above it.
    private static final int NO_LEVEL = -1000000;

    private final Borings borings;
    private final Faults faults;
    private final Waters waters;
    private final Net net;
    private final Matchings matchings;
    private final Beds beds;
    private final Spot spot;
    private final Reader reader;
    private final StringBuilder written;
    private final int[] ages;
    private int lensHundredths;
    private int mayBeOff;
    private boolean upToDate;

    public LayerJoins() {
        borings = new Borings();
        faults = new Faults();
        waters = new Waters();
        net = new Net();
        matchings = new Matchings();
        beds = new Beds();
        spot = new Spot();
        reader = new Reader();
        written = new StringBuilder();
        ages = new int[LAST_KIND + 1];
        lensHundredths = FIRST_LENS;
        mayBeOff = 0;
        upToDate = false;
    }

    public int boring(int x, int y, int top) throws IllegalArgumentException, UnsupportedOperationException {
        if (!isPlace(x, y) || !isLevel(top) || borings.numberAt(x, y) != NONE) {
            throw new IllegalArgumentException();
        }
        if (borings.isFull()) {
            throw new UnsupportedOperationException();
        }
        upToDate = false;
        borings.stage(x, y, top);
        borings.keepStaged();
        return borings.count - 1;
    }

    public int layer(int boring, int kind, int thickness)
            throws IndexOutOfBoundsException, IllegalArgumentException, UnsupportedOperationException {
        requireBoring(boring);
        if (!isKind(kind) || !isThickness(thickness)) {
            throw new IllegalArgumentException();
        }
        Boring told = borings.all[boring];
        if (told.layers >= MOST_LAYERS) {
            throw new UnsupportedOperationException();
        }
        upToDate = false;
        told.addLayer(kind, thickness);
        return told.layers - 1;
    }

    public boolean age(int kind, int age) {
        if (!isKind(kind) || !isFrom(0, LAST_AGE, age)) {
            return false;
        }
        upToDate = false;
        ages[kind] = age;
        return true;
    }

    public boolean fault(int x0, int y0, int x1, int y1) {
        boolean isWay = isPlace(x0, y0) && isPlace(x1, y1) && (x0 != x1 || y0 != y1);
        if (!isWay || faults.count >= MOST_FAULTS) {
            return false;
        }
        upToDate = false;
        faults.add(x0, y0, x1, y1);
        return true;
    }

    public boolean lens(int hundredths) {
        if (!isFrom(1, FULL_LENS, hundredths)) {
            return false;
        }
        lensHundredths = hundredths;
        return true;
    }

    public boolean water(int boring, int week, int level) {
        if (!borings.has(boring) || !isWeek(week) || !isLevel(level)) {
            return false;
        }
        return waters.put(boring, week, level);
    }

    public boolean within(int v) {
        if (!isFrom(0, MOST_WITHIN, v)) {
            return false;
        }
        mayBeOff = v;
        return true;
    }

    public int run() {
        net.lay(borings, faults);
        matchings.findAll(borings, net, ages);
        beds.gather(borings, net, matchings);
        upToDate = true;
        return beds.count;
    }

    public int count(int what) throws IllegalStateException {
        switch (what) {
            case 0:
                return borings.count;
            case 1:
                return faults.count;
            case 2:
                return waters.count;
            case 3:
                requireRun();
                return net.edges;
            case 4:
                requireRun();
                return net.brokenEdges;
            case 5:
                requireRun();
                return net.triangles;
            case 6:
                requireRun();
                return beds.count;
            default:
                return -1;
        }
    }

    public int edge(int k, int what)
            throws IllegalStateException, IndexOutOfBoundsException, IllegalArgumentException {
        requireRun();
        requireIndex(k, net.edges);
        switch (what) {
            case 0:
                return net.firsts[k];
            case 1:
                return net.seconds[k];
            case 2:
                return net.broken[k] ? 1 : 0;
            default:
                throw new IllegalArgumentException();
        }
    }

    public int triangle(int k, int what)
            throws IllegalStateException, IndexOutOfBoundsException, IllegalArgumentException {
        requireRun();
        requireIndex(k, net.triangles);
        requireFrom(0, 2, what);
        return net.cornerOf(k, what);
    }

    public int match(int a, int b, int layer)
            throws IllegalStateException, IndexOutOfBoundsException, IllegalArgumentException {
        requireRun();
        requireBoring(a);
        requireBoring(b);
        requireIndex(layer, borings.all[a].layers);
        requireNeighbours(a, b);
        return matchings.partner(net, a, b, layer);
    }

    public int sum(int a, int b)
            throws IllegalStateException, IndexOutOfBoundsException, IllegalArgumentException {
        requireRun();
        requireBoring(a);
        requireBoring(b);
        requireNeighbours(a, b);
        return matchings.sums[net.joining(a, b)];
    }

    public int section(int a, int b, int k, int what)
            throws IllegalStateException, IndexOutOfBoundsException, IllegalArgumentException {
        requireRun();
        requireBoring(a);
        requireBoring(b);
        requireNeighbours(a, b);
        matchings.draw(borings, net, a, b);
        requireIndex(k, matchings.rows);
        requireFrom(0, 1, what);
        return what == 0 ? matchings.left[k] : matchings.right[k];
    }

    public boolean crosses() throws IllegalStateException {
        requireRun();
        return matchings.anyCrosses(borings, net);
    }

    public int bed(int k, int what)
            throws IllegalStateException, IndexOutOfBoundsException, IllegalArgumentException {
        requireRun();
        requireIndex(k, beds.count);
        switch (what) {
            case 0:
                return beds.kinds[k];
            case 1:
                return Integer.bitCount(beds.borings[k]);
            case 2:
                return beds.layers[k];
            case 3:
                return beds.firsts[k] / MOST_LAYERS;
            case 4:
                return beds.firsts[k] % MOST_LAYERS;
            default:
                throw new IllegalArgumentException();
        }
    }

    public int bedOf(int boring, int layer) throws IllegalStateException, IndexOutOfBoundsException {
        requireRun();
        requireBoring(boring);
        requireIndex(layer, borings.all[boring].layers);
        return beds.numbers[slotOf(boring, layer)];
    }

    public long at(int bed, int x, int y, int part)
            throws IllegalStateException, IndexOutOfBoundsException, IllegalArgumentException {
        requireRun();
        requireIndex(bed, beds.count);
        requirePlace(x, y);
        requireFrom(0, 1, part);
        spot.goTo(x, y, borings, net);
        spot.find(beds, bed, net);
        return part == 0 ? spot.upper : spot.lower;
    }

    public long wet(int week, int x, int y, int part) throws IllegalStateException, IllegalArgumentException {
        requireRun();
        requireFrom(0, LAST_WEEK, week);
        requirePlace(x, y);
        requireFrom(0, 1, part);
        spot.goTo(x, y, borings, net);
        spot.find(waters, week, net);
        return part == 0 ? spot.upper : spot.lower;
    }

    public long volume(int kind, int x0, int y0, int x1, int y1)
            throws IllegalStateException, IllegalArgumentException {
        requireRun();
        requireFrom(0, LAST_KIND, kind);
        long all = 0;
        for (int t = 0; t < net.triangles; t++) {
            if (isInBox(t, x0, y0, x1, y1)) {
                all += beds.volumeIn(net, t, kind, lensHundredths);
            }
        }
        return all;
    }

    public int later(int x, int y, int kind, int level) throws IllegalStateException, IllegalArgumentException {
        requireRun();
        requirePlace(x, y);
        requireFrom(0, LAST_KIND, kind);
        requireFrom(-HIGHEST, HIGHEST, level);
        spot.goTo(x, y, borings, net);
        int answer = 2;
        for (int k = 0; k < beds.count; k++) {
            if (beds.kinds[k] != kind) {
                continue;
            }
            spot.find(beds, k, net);
            if (spot.isNear(level, mayBeOff)) {
                return 0;
            }
            if (spot.hasLevel()) {
                answer = 1;
            }
        }
        return answer;
    }

    public int doubt(int x, int y) {
        return isPlace(x, y) ? borings.nearest(x, y) : NONE;
    }

    public boolean unit(int c) {
        return reader.add(c);
    }

    public int read() {
        int answer = reader.stageBorings(borings);
        if (answer > 0) {
            upToDate = false;
            borings.keepStaged();
        } else {
            borings.dropStaged();
        }
        reader.clear();
        return answer;
    }

    public int write(int boring) throws IndexOutOfBoundsException {
        requireBoring(boring);
        written.setLength(0);
        borings.all[boring].writeTo(written);
        return written.length();
    }

    public char letter(int i) {
        return i >= 0 && i < written.length() ? written.charAt(i) : (char) 0;
    }

    private void requireRun() {
        if (!upToDate) {
            throw new IllegalStateException();
        }
    }

    private void requireBoring(int boring) {
        requireIndex(boring, borings.count);
    }

    private void requireNeighbours(int a, int b) {
        if (net.joining(a, b) == NONE) {
            throw new IllegalArgumentException();
        }
    }

    private boolean isInBox(int triangle, int x0, int y0, int x1, int y1) {
        for (int corner = 0; corner < 3; corner++) {
            Place place = borings.all[net.cornerOf(triangle, corner)].place;
            if (!isFrom(x0, x1, place.x) || !isFrom(y0, y1, place.y)) {
                return false;
            }
        }
        return true;
    }

    private static void requireIndex(int k, int size) {
        if (k < 0 || k >= size) {
            throw new IndexOutOfBoundsException();
        }
    }

    private static void requirePlace(int x, int y) {
        if (!isPlace(x, y)) {
            throw new IllegalArgumentException();
        }
    }

    private static void requireFrom(int least, int most, int number) {
        if (!isFrom(least, most, number)) {
            throw new IllegalArgumentException();
        }
    }

    private static boolean isFrom(int least, int most, int number) {
        return least <= number && number <= most;
    }

    private static boolean isPlace(int x, int y) {
        return isFrom(-FARTHEST, FARTHEST, x) && isFrom(-FARTHEST, FARTHEST, y);
    }

    private static boolean isLevel(int level) {
        return isFrom(-HIGHEST, HIGHEST, level);
    }

    private static boolean isKind(int kind) {
        return isFrom(0, LAST_KIND, kind);
    }

    private static boolean isThickness(int thickness) {
        return isFrom(1, THICKEST, thickness);
    }

    private static boolean isWeek(int week) {
        return isFrom(0, LAST_WEEK, week);
    }

    /** Where the rows over all layers of all borings hold a layer. */
    private static int slotOf(int boring, int layer) {
        return boring * MOST_LAYERS + layer;
    }

    /** A place, and what is asked of straight ways between places; all products stay below nine millions. */
    private static final class Place {
        int x;
        int y;

        void moveTo(int newX, int newY) {
            x = newX;
            y = newY;
        }

        int squareTo(int otherX, int otherY) {
            return (otherX - x) * (otherX - x) + (otherY - y) * (otherY - y);
        }

        /** Twice the area of three places: above 0 if they turn to the left, 0 on one straight line. */
        static int turn(Place a, Place b, Place c) {
            return (b.x - a.x) * (c.y - a.y) - (b.y - a.y) * (c.x - a.x);
        }

        static boolean isOnWay(Place from, Place to, Place p) {
            return turn(from, to, p) == 0
                    && isFrom(Math.min(from.x, to.x), Math.max(from.x, to.x), p.x)
                    && isFrom(Math.min(from.y, to.y), Math.max(from.y, to.y), p.y);
        }

        static boolean waysMeet(Place a, Place b, Place c, Place d) {
            if (areApart(turn(a, b, c), turn(a, b, d)) && areApart(turn(c, d, a), turn(c, d, b))) {
                return true;
            }
            // Without a true crossing, ways that meet have an end of one on the other.
            return isOnWay(a, b, c) || isOnWay(a, b, d) || isOnWay(c, d, a) || isOnWay(c, d, b);
        }

        /** Only for three places that are not on one straight line. */
        static boolean isInTriangle(Place a, Place b, Place c, Place p) {
            int ab = turn(a, b, p);
            int bc = turn(b, c, p);
            int ca = turn(c, a, p);
            return ab >= 0 && bc >= 0 && ca >= 0 || ab <= 0 && bc <= 0 && ca <= 0;
        }

        private static boolean areApart(int turn, int other) {
            return turn < 0 && other > 0 || turn > 0 && other < 0;
        }
    }

    private static final class Boring {
        final Place place = new Place();
        final int[] kinds = new int[MOST_LAYERS];
        final int[] thicknesses = new int[MOST_LAYERS];
        int top;
        int layers;

        void begin(int x, int y, int newTop) {
            place.moveTo(x, y);
            top = newTop;
            layers = 0;
        }

        void addLayer(int kind, int thickness) {
            if (layers < MOST_LAYERS) {
                kinds[layers] = kind;
                thicknesses[layers] = thickness;
                layers++;
            }
        }

        void writeTo(StringBuilder text) {
            text.append('b');
            appendNumber(text, place.x);
            appendNumber(text, place.y);
            appendNumber(text, top);
            for (int layer = 0; layer < layers; layer++) {
                appendNumber(text, kinds[layer]);
                appendNumber(text, thicknesses[layer]);
            }
            text.append(' ');
            text.append('e');
        }

        private static void appendNumber(StringBuilder text, int number) {
            text.append(' ');
            text.append(number);
        }
    }

    /** The borings told, and behind them those of a text that may still turn out to be wrong. */
    private static final class Borings {
        final Boring[] all = new Boring[MOST_BORINGS];
        int count;
        private int staged;

        Borings() {
            for (int k = 0; k < MOST_BORINGS; k++) {
                all[k] = new Boring();
            }
        }

        boolean has(int boring) {
            return boring >= 0 && boring < count;
        }

        boolean isFull() {
            return count + staged >= MOST_BORINGS;
        }

        int numberAt(int x, int y) {
            for (int k = 0; k < count + staged; k++) {
                if (all[k].place.squareTo(x, y) == 0) {
                    return k;
                }
            }
            return NONE;
        }

        int nearest(int x, int y) {
            int best = NONE;
            for (int k = 0; k < count; k++) {
                if (best == NONE || all[k].place.squareTo(x, y) < all[best].place.squareTo(x, y)) {
                    best = k;
                }
            }
            return best;
        }

        void stage(int x, int y, int top) {
            if (!isFull()) {
                all[count + staged].begin(x, y, top);
                staged++;
            }
        }

        void addLayerToStaged(int kind, int thickness) {
            if (staged > 0) {
                all[count + staged - 1].addLayer(kind, thickness);
            }
        }

        void keepStaged() {
            count += staged;
            staged = 0;
        }

        void dropStaged() {
            staged = 0;
        }
    }

    private static final class Faults {
        private final Place[] froms = new Place[MOST_FAULTS];
        private final Place[] tos = new Place[MOST_FAULTS];
        int count;

        Faults() {
            for (int k = 0; k < MOST_FAULTS; k++) {
                froms[k] = new Place();
                tos[k] = new Place();
            }
        }

        void add(int x0, int y0, int x1, int y1) {
            if (count < MOST_FAULTS) {
                froms[count].moveTo(x0, y0);
                tos[count].moveTo(x1, y1);
                count++;
            }
        }

        boolean breakWay(Place a, Place b) {
            for (int k = 0; k < count; k++) {
                if (Place.waysMeet(froms[k], tos[k], a, b)) {
                    return true;
                }
            }
            return false;
        }
    }

    /** What has a level in some borings: a bed or the water of a week, by its number. */
    private interface Levels {
        /** NO_LEVEL where there is none. */
        int levelIn(int number, int boring);
    }

    private static final class Waters implements Levels {
        private final int[] borings = new int[MOST_WATERS];
        private final int[] weeks = new int[MOST_WATERS];
        private final int[] levels = new int[MOST_WATERS];
        int count;

        boolean put(int boring, int week, int level) {
            int k = find(boring, week);
            if (k == NONE) {
                if (count >= MOST_WATERS) {
                    return false;
                }
                k = count;
                count++;
            }
            borings[k] = boring;
            weeks[k] = week;
            levels[k] = level;
            return true;
        }

        @Override
        public int levelIn(int week, int boring) {
            int k = find(boring, week);
            return k == NONE ? NO_LEVEL : levels[k];
        }

        private int find(int boring, int week) {
            for (int k = 0; k < count; k++) {
                if (borings[k] == boring && weeks[k] == week) {
                    return k;
                }
            }
            return NONE;
        }
    }

    private static final class Net {
        final int[] firsts = new int[MOST_EDGES];
        final int[] seconds = new int[MOST_EDGES];
        final boolean[] broken = new boolean[MOST_EDGES];
        final int[] areas = new int[MOST_TRIANGLES];
        int edges;
        int brokenEdges;
        int triangles;
        private final int[] pairKeys = new int[MOST_PAIRS];
        private final int[] edgeOfNeighbours = new int[MOST_BORINGS * MOST_BORINGS];
        private final int[] corners = new int[3 * MOST_TRIANGLES];
        private int pairs;

        void lay(Borings told, Faults faults) {
            orderPairs(told);
            takeEdges(told, faults);
            takeTriangles(told);
        }

        /** The edge of two neighbours, NONE if they are none. */
        int joining(int a, int b) {
            return edgeOfNeighbours[a * MOST_BORINGS + b];
        }

        int cornerOf(int triangle, int which) {
            return corners[3 * triangle + which];
        }

        private void orderPairs(Borings told) {
            pairs = 0;
            for (int a = 0; a < told.count; a++) {
                Place place = told.all[a].place;
                for (int b = a + 1; b < told.count; b++) {
                    int square = told.all[b].place.squareTo(place.x, place.y);
                    // One number has the whole order in it: the greatest square is 8000000, below 2^31 / 256.
                    insertKey((square * MOST_BORINGS + a) * MOST_BORINGS + b);
                }
            }
        }

        private void insertKey(int key) {
            if (pairs >= MOST_PAIRS) {
                return;
            }
            int k = pairs;
            for (; k > 0 && pairKeys[k - 1] > key; k--) {
                pairKeys[k] = pairKeys[k - 1];
            }
            pairKeys[k] = key;
            pairs++;
        }

        private void takeEdges(Borings told, Faults faults) {
            edges = 0;
            brokenEdges = 0;
            Arrays.fill(edgeOfNeighbours, NONE);
            for (int k = 0; k < pairs; k++) {
                int a = pairKeys[k] / MOST_BORINGS % MOST_BORINGS;
                int b = pairKeys[k] % MOST_BORINGS;
                if (isBareWay(told, a, b) && meetsNoEdge(told, a, b)) {
                    takeEdge(a, b, faults.breakWay(told.all[a].place, told.all[b].place));
                }
            }
        }

        private void takeEdge(int a, int b, boolean isBroken) {
            if (edges >= MOST_EDGES) {
                return;
            }
            firsts[edges] = a;
            seconds[edges] = b;
            broken[edges] = isBroken;
            if (isBroken) {
                brokenEdges++;
            } else {
                edgeOfNeighbours[a * MOST_BORINGS + b] = edges;
                edgeOfNeighbours[b * MOST_BORINGS + a] = edges;
            }
            edges++;
        }

        private static boolean isBareWay(Borings told, int a, int b) {
            for (int k = 0; k < told.count; k++) {
                if (k != a && k != b
                        && Place.isOnWay(told.all[a].place, told.all[b].place, told.all[k].place)) {
                    return false;
                }
            }
            return true;
        }

        private boolean meetsNoEdge(Borings told, int a, int b) {
            for (int k = 0; k < edges; k++) {
                int c = firsts[k];
                int d = seconds[k];
                // Bare ways with one boring in common have no other point in common.
                boolean shareBoring = a == c || a == d || b == c || b == d;
                if (!shareBoring && Place.waysMeet(told.all[a].place, told.all[b].place,
                        told.all[c].place, told.all[d].place)) {
                    return false;
                }
            }
            return true;
        }

        private void takeTriangles(Borings told) {
            triangles = 0;
            for (int a = 0; a < told.count; a++) {
                for (int b = a + 1; b < told.count; b++) {
                    if (joining(a, b) != NONE) {
                        takeTrianglesOn(told, a, b);
                    }
                }
            }
        }

        private void takeTrianglesOn(Borings told, int a, int b) {
            for (int c = b + 1; c < told.count; c++) {
                boolean areNeighbours = joining(a, c) != NONE && joining(b, c) != NONE;
                if (areNeighbours && triangles < MOST_TRIANGLES && isBareTriangle(told, a, b, c)) {
                    corners[3 * triangles] = a;
                    corners[3 * triangles + 1] = b;
                    corners[3 * triangles + 2] = c;
                    areas[triangles] = Math.abs(turnOf(told, a, b, c));
                    triangles++;
                }
            }
        }

        private static boolean isBareTriangle(Borings told, int a, int b, int c) {
            if (turnOf(told, a, b, c) == 0) {
                return false;
            }
            for (int k = 0; k < told.count; k++) {
                if (k != a && k != b && k != c && Place.isInTriangle(told.all[a].place,
                        told.all[b].place, told.all[c].place, told.all[k].place)) {
                    return false;
                }
            }
            return true;
        }

        private static int turnOf(Borings told, int a, int b, int c) {
            return Place.turn(told.all[a].place, told.all[b].place, told.all[c].place);
        }
    }

    /** The matching of each edge that is not broken, and the section drawn last. */
    private static final class Matchings {
        private static final int WIDTH = MOST_LAYERS + 1;

        final int[] sums = new int[MOST_EDGES];
        final int[] left = new int[MOST_ROWS];
        final int[] right = new int[MOST_ROWS];
        int rows;
        private final int[] ofFirsts = new int[MOST_EDGES * MOST_LAYERS];
        private final int[] ofSeconds = new int[MOST_EDGES * MOST_LAYERS];
        // The least sum for the layers of a from i on and those of b from j on.
        private final int[] leasts = new int[WIDTH * WIDTH];

        void findAll(Borings told, Net net, int[] ages) {
            for (int edge = 0; edge < net.edges; edge++) {
                if (!net.broken[edge]) {
                    Boring a = told.all[net.firsts[edge]];
                    Boring b = told.all[net.seconds[edge]];
                    weigh(a, b, ages);
                    sums[edge] = leasts[0];
                    choose(edge, a, b, ages);
                }
            }
        }

        /** Only for neighbours; NONE if the layer of a ends. */
        int partner(Net net, int a, int b, int layer) {
            int edge = net.joining(a, b);
            if (edge == NONE) {
                return NONE;
            }
            return a < b ? ofFirsts[edge * MOST_LAYERS + layer] : ofSeconds[edge * MOST_LAYERS + layer];
        }

        /** The section between two neighbours, a to the left, also where a is greater than b. */
        void draw(Borings told, Net net, int a, int b) {
            rows = 0;
            int i = 0;
            int j = 0;
            int leftLayers = told.all[a].layers;
            int rightLayers = told.all[b].layers;
            for (int step = 0; step < leftLayers + rightLayers; step++) {
                if (i < leftLayers && partner(net, a, b, i) == NONE) {
                    addRow(i, NONE);
                    i++;
                } else if (j < rightLayers && partner(net, b, a, j) == NONE) {
                    addRow(NONE, j);
                    j++;
                } else if (i < leftLayers && j < rightLayers) {
                    // Pairs do not cross: the next layers that do not end are matched with one another.
                    addRow(i, j);
                    i++;
                    j++;
                }
            }
        }

        private void addRow(int leftLayer, int rightLayer) {
            if (rows < MOST_ROWS) {
                left[rows] = leftLayer;
                right[rows] = rightLayer;
                rows++;
            }
        }

        boolean anyCrosses(Borings told, Net net) {
            for (int edge = 0; edge < net.edges; edge++) {
                if (!net.broken[edge] && crossesOn(edge, told.all[net.firsts[edge]].layers)) {
                    return true;
                }
            }
            return false;
        }

        /** Pairs are gone through from the top of a down: then those of b must go down too. */
        private boolean crossesOn(int edge, int layers) {
            int deepest = NONE;
            for (int i = 0; i < layers; i++) {
                int partner = ofFirsts[edge * MOST_LAYERS + i];
                if (partner != NONE && partner <= deepest) {
                    return true;
                }
                deepest = Math.max(deepest, partner);
            }
            return false;
        }

        private void weigh(Boring a, Boring b, int[] ages) {
            for (int i = a.layers; i >= 0; i--) {
                for (int j = b.layers; j >= 0; j--) {
                    leasts[i * WIDTH + j] = leastFrom(a, i, b, j, ages);
                }
            }
        }

        private int leastFrom(Boring a, int i, Boring b, int j, int[] ages) {
            if (i >= a.layers && j >= b.layers) {
                return 0;
            }
            if (i >= a.layers) {
                return b.thicknesses[j] + leasts[i * WIDTH + j + 1];
            }
            int least = a.thicknesses[i] + leasts[(i + 1) * WIDTH + j];
            if (j < b.layers) {
                least = Math.min(least, b.thicknesses[j] + leasts[i * WIDTH + j + 1]);
                least = Math.min(least, pairCost(a, i, b, j, ages) + leasts[(i + 1) * WIDTH + j + 1]);
            }
            return least;
        }

        private void choose(int edge, Boring a, Boring b, int[] ages) {
            int row = edge * MOST_LAYERS;
            for (int j = 0; j < b.layers; j++) {
                ofSeconds[row + j] = NONE;
            }
            int free = 0;
            for (int i = 0; i < a.layers; i++) {
                int partner = bestPartner(a, i, b, free, ages);
                ofFirsts[row + i] = partner;
                if (partner != NONE) {
                    ofSeconds[row + partner] = i;
                    free = partner + 1;
                }
            }
        }

        /** The uppermost layer of b, from free on, with which the least sum can still be had. */
        private int bestPartner(Boring a, int i, Boring b, int free, int[] ages) {
            int ended = 0;
            for (int j = free; j < b.layers; j++) {
                int rest = leasts[(i + 1) * WIDTH + j + 1];
                if (ended + pairCost(a, i, b, j, ages) + rest == leasts[i * WIDTH + free]) {
                    return j;
                }
                ended += b.thicknesses[j];
            }
            return NONE;
        }

        private static int pairCost(Boring a, int i, Boring b, int j, int[] ages) {
            int cost = Math.abs(a.thicknesses[i] - b.thicknesses[j]);
            if (a.kinds[i] != b.kinds[j]) {
                cost += OTHER_KIND_COST + AGE_COST * Math.abs(ages[a.kinds[i]] - ages[b.kinds[j]]);
            }
            return cost;
        }
    }

    private static final class Beds implements Levels {
        final int[] numbers = new int[MOST_SLOTS];
        final int[] kinds = new int[MOST_SLOTS];
        final int[] layers = new int[MOST_SLOTS];
        final int[] firsts = new int[MOST_SLOTS];
        // A bit for each boring in which the bed is.
        final int[] borings = new int[MOST_SLOTS];
        int count;
        private final int[] levels = new int[MOST_SLOTS];
        private final int[] thicknesses = new int[MOST_SLOTS];
        private final int[] reached = new int[MOST_SLOTS];
        private int reachedCount;

        void gather(Borings told, Net net, Matchings matchings) {
            count = 0;
            Arrays.fill(numbers, NONE);
            for (int boring = 0; boring < told.count; boring++) {
                measure(told.all[boring], boring);
            }
            for (int boring = 0; boring < told.count; boring++) {
                Boring here = told.all[boring];
                for (int layer = 0; layer < here.layers; layer++) {
                    if (numbers[slotOf(boring, layer)] == NONE) {
                        begin(slotOf(boring, layer), here.kinds[layer]);
                        spread(told.count, net, matchings);
                        count++;
                    }
                }
            }
        }

        @Override
        public int levelIn(int bed, int boring) {
            for (int slot = slotOf(boring, 0); slot < slotOf(boring + 1, 0); slot++) {
                if (numbers[slot] == bed) {
                    return levels[slot];
                }
            }
            return NO_LEVEL;
        }

        /** 120000 times the volumes of the beds of a kind in a triangle. */
        long volumeIn(Net net, int triangle, int kind, int lens) {
            int corners = 0;
            for (int which = 0; which < 3; which++) {
                corners |= 1 << net.cornerOf(triangle, which);
            }
            long all = 0;
            for (int bed = 0; bed < count; bed++) {
                int common = borings[bed] & corners;
                if (kinds[bed] == kind && common != 0) {
                    long share = shareOf(Integer.bitCount(common), lens);
                    all += net.areas[triangle] * share * thicknessOn(net, triangle, bed);
                }
            }
            return all;
        }

        /** 120000 times the share of area and thicknesses, by how many of the three borings have the bed. */
        private static long shareOf(int having, int lens) {
            switch (having) {
                case 3:
                    return 20000;
                case 2:
                    return 300 * lens - lens * lens;
                case 1:
                    return 2 * lens * lens;
                default:
                    return 0;
            }
        }

        private long thicknessOn(Net net, int triangle, int bed) {
            long all = 0;
            for (int which = 0; which < 3; which++) {
                int boring = net.cornerOf(triangle, which);
                for (int slot = slotOf(boring, 0); slot < slotOf(boring + 1, 0); slot++) {
                    if (numbers[slot] == bed) {
                        all += thicknesses[slot];
                    }
                }
            }
            return all;
        }

        private void measure(Boring boring, int number) {
            int level = boring.top;
            for (int layer = 0; layer < boring.layers; layer++) {
                levels[slotOf(number, layer)] = level;
                thicknesses[slotOf(number, layer)] = boring.thicknesses[layer];
                level -= boring.thicknesses[layer];
            }
        }

        private void begin(int slot, int kind) {
            kinds[count] = kind;
            firsts[count] = slot;
            layers[count] = 0;
            borings[count] = 0;
            reachedCount = 0;
            reach(slot);
        }

        private void reach(int slot) {
            if (reachedCount < MOST_SLOTS) {
                numbers[slot] = count;
                layers[count]++;
                borings[count] |= 1 << slot / MOST_LAYERS;
                reached[reachedCount] = slot;
                reachedCount++;
            }
        }

        private void spread(int boringCount, Net net, Matchings matchings) {
            for (int k = 0; k < reachedCount && k < MOST_SLOTS; k++) {
                int boring = reached[k] / MOST_LAYERS;
                int layer = reached[k] % MOST_LAYERS;
                for (int other = 0; other < boringCount; other++) {
                    int partner = matchings.partner(net, boring, other, layer);
                    if (partner != NONE && numbers[slotOf(other, partner)] == NONE) {
                        reach(slotOf(other, partner));
                    }
                }
            }
        }
    }

    /** A place that levels are asked for, and the level found last: 0 and 0 for none. */
    private static final class Spot {
        long upper;
        long lower;
        private final Place place = new Place();
        // The boring whose level holds here before all triangles.
        private int boring;
        private final int[] around = new int[MOST_TRIANGLES];
        private final int[] shares = new int[3 * MOST_TRIANGLES];
        private int aroundCount;

        void goTo(int x, int y, Borings told, Net net) {
            place.moveTo(x, y);
            boring = told.count == 1 ? 0 : told.numberAt(x, y);
            aroundCount = 0;
            for (int t = 0; t < net.triangles; t++) {
                Place a = told.all[net.cornerOf(t, 0)].place;
                Place b = told.all[net.cornerOf(t, 1)].place;
                Place c = told.all[net.cornerOf(t, 2)].place;
                if (Place.isInTriangle(a, b, c, place)) {
                    around[aroundCount] = t;
                    shares[3 * aroundCount] = Math.abs(Place.turn(b, c, place));
                    shares[3 * aroundCount + 1] = Math.abs(Place.turn(c, a, place));
                    shares[3 * aroundCount + 2] = Math.abs(Place.turn(a, b, place));
                    aroundCount++;
                }
            }
        }

        void find(Levels levels, int number, Net net) {
            int own = boring == NONE ? NO_LEVEL : levels.levelIn(number, boring);
            if (own != NO_LEVEL) {
                upper = own;
                lower = 1;
                return;
            }
            upper = 0;
            lower = 0;
            for (int k = 0; k < aroundCount && !hasLevel(); k++) {
                findOnPlane(levels, number, net, k);
            }
        }

        boolean hasLevel() {
            return lower != 0;
        }

        boolean isNear(int level, int mayBeOff) {
            return hasLevel() && Math.abs(upper - level * lower) <= mayBeOff * lower;
        }

        private void findOnPlane(Levels levels, int number, Net net, int k) {
            long weighed = 0;
            for (int which = 0; which < 3; which++) {
                int level = levels.levelIn(number, net.cornerOf(around[k], which));
                if (level == NO_LEVEL) {
                    return;
                }
                weighed += (long) shares[3 * k + which] * level;
            }
            int area = net.areas[around[k]];
            long divisor = commonDivisor(Math.abs(weighed), area);
            if (divisor > 0) {
                upper = weighed / divisor;
                lower = area / divisor;
            }
        }

        private static long commonDivisor(long a, long b) {
            long greater = a;
            long lesser = b;
            // Two steps halve the greater number, so that 128 are enough for any two.
            for (int step = 0; step < 128 && lesser != 0; step++) {
                long rest = greater % lesser;
                greater = lesser;
                lesser = rest;
            }
            return greater;
        }
    }

    /** The text to be read, word by word; behind the last word stands an empty one, which fits nowhere. */
    private static final class Reader {
        private final char[] units = new char[MOST_UNITS];
        private int length;
        private int wordStart;
        private int wordEnd;
        private int wordNumber;
        private int value;

        boolean add(int c) {
            if (!isFrom(32, 126, c) && c != 10 || length >= MOST_UNITS) {
                return false;
            }
            units[length] = (char) c;
            length++;
            return true;
        }

        void clear() {
            length = 0;
        }

        /** How many borings are staged; below 0, by the document's count, if the text is none of borings. */
        int stageBorings(Borings told) {
            wordEnd = 0;
            wordNumber = -1;
            for (int taken = 0; taken <= MOST_BORINGS; taken++) {
                moveToNextWord();
                if (wordStart >= length) {
                    return taken;
                }
                if (!takeBoring(told)) {
                    return -1 - wordNumber;
                }
            }
            return -1 - wordNumber;
        }

        private boolean takeBoring(Borings told) {
            if (!isLetter('b') || told.isFull() || !takeNumber(-FARTHEST, FARTHEST)) {
                return false;
            }
            int x = value;
            if (!takeNumber(-FARTHEST, FARTHEST) || told.numberAt(x, value) != NONE) {
                return false;
            }
            int y = value;
            if (!takeNumber(-HIGHEST, HIGHEST)) {
                return false;
            }
            told.stage(x, y, value);
            return takeLayers(told);
        }

        private boolean takeLayers(Borings told) {
            for (int layers = 0; layers <= MOST_LAYERS; layers++) {
                moveToNextWord();
                if (isLetter('e')) {
                    return true;
                }
                if (layers == MOST_LAYERS || !isNumber(0, LAST_KIND)) {
                    return false;
                }
                int kind = value;
                if (!takeNumber(1, THICKEST)) {
                    return false;
                }
                told.addLayerToStaged(kind, value);
            }
            return false;
        }

        private void moveToNextWord() {
            wordStart = wordEnd;
            while (wordStart < length && isGap(units[wordStart])) {
                wordStart++;
            }
            wordEnd = wordStart;
            while (wordEnd < length && !isGap(units[wordEnd])) {
                wordEnd++;
            }
            wordNumber++;
        }

        private static boolean isGap(char c) {
            return c == 32 || c == 10;
        }

        private boolean isLetter(char c) {
            return wordEnd - wordStart == 1 && units[wordStart] == c;
        }

        private boolean takeNumber(int least, int most) {
            moveToNextWord();
            return isNumber(least, most);
        }

        /** Leaves the number in value. */
        private boolean isNumber(int least, int most) {
            boolean isBelowZero = wordStart < wordEnd && units[wordStart] == '-';
            int firstDigit = isBelowZero ? wordStart + 1 : wordStart;
            if (!isFrom(1, MOST_DIGITS, wordEnd - firstDigit)) {
                return false;
            }
            int size = 0;
            for (int k = firstDigit; k < wordEnd; k++) {
                if (!isFrom('0', '9', units[k])) {
                    return false;
                }
                size = size * 10 + (units[k] - '0');
            }
            value = isBelowZero ? -size : size;
            return isFrom(least, most, value);
        }
    }
}
