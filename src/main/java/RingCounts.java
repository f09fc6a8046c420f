import java.util.Arrays;

/**
 * A net of 40 vertices whose triangles, rings of four, trusses and cores are told as its edges come and go.
 * What each call answers stands in ../shared/DOC.md. No call throws: each one answers a wrong number by a code.
 */
public final class RingCounts {
    public static final int NONE = -1, BAD = -2, STATE = -3, FULL = -4;
    public static final long NO = Long.MIN_VALUE;
    public static final long OVER = Long.MIN_VALUE + 1;

    private static final int NO_SUCH = -5;
    private static final int NOTHING = -11, CAST = -12, BEYOND = -13, BELOW = -14;
    private static final int FAULTY = -100;
    private static final int ROW_ENDS = 100;

    private static final int VERTICES = 40;
    private static final long ALL_VERTICES = (1L << VERTICES) - 1;
    private static final int PAIRS = VERTICES * VERTICES;
    private static final int MOST_EDGES = VERTICES * (VERTICES - 1) / 2;
    private static final int MOST_WORTH = 2000000;
    private static final int MOST_FEWEST = 4;
    private static final int MOST_DIVISIONS = 100;
    private static final int MOST_BACK = 60;
    private static final int MOST_BYTES = 160;
    private static final int LISTS = 6, INT_LISTS = 4, MOST_PLACES = 60;
    private static final int DEGREES = 0, TRIANGLES = 1, CORES = 2, RINGS = 3;

    private final Net net = new Net();
    private final Net kept = new Net();
    private boolean imageTaken = false;
    private final Peeling peeling = new Peeling();
    private final Breaking breaking = new Breaking();
    private final Tape tape = new Tape();
    private final BatchText batchText = new BatchText();
    private final PickText pickText = new PickText();
    private final Paper sheet = new Paper();
    private final Row[] rows = new Row[LISTS];
    private final int[] figures = new int[VERTICES];

    public RingCounts() {
        for (int i = 0; i < LISTS; i++) {
            rows[i] = new Row(i < INT_LISTS);
        }
    }

    // ---- edges

    public int add(int u, int v, int worth) {
        if (!isTwo(u, v)) {
            return NONE;
        }
        if (worth < -MOST_WORTH || worth > MOST_WORTH) {
            return BAD;
        }
        if (net.joins(u, v)) {
            return STATE;
        }
        net.bring(u, v, worth);
        return Counts.shared(net.near, u, v);
    }

    public int cut(int u, int v) {
        if (!isTwo(u, v)) {
            return NONE;
        }
        if (!net.joins(u, v)) {
            return STATE;
        }
        net.drop(u, v);
        return Counts.shared(net.near, u, v);
    }

    public long worth(int u, int v) {
        if (!isTwo(u, v) || !net.joins(u, v)) {
            return NO;
        }
        return net.worths[pairOf(u, v)];
    }

    public int of(int u, int what) {
        if (!isVertex(u)) {
            return NONE;
        }
        switch (what) {
            case 0:
                return Counts.degree(net.near, u);
            case 1:
                return Counts.trianglesAt(net.near, u);
            case 2:
                return net.isHeavy(u) ? 1 : 0;
            case 3:
                Counts.layCores(net.near, figures);
                return figures[u];
            case 4:
                return Counts.ringsAt(net.near, u);
            case 5:
                return Counts.foursAt(net.near, u);
            default:
                return NONE;
        }
    }

    public int two(int u, int v, int what) {
        if (!isTwo(u, v)) {
            return NONE;
        }
        switch (what) {
            case 0:
                return Counts.shared(net.near, u, v);
            case 1:
                return Long.bitCount(net.near[u] & net.near[v] & ~net.heavy);
            case 2:
                return Counts.waysByThree(net.near, u, v);
            case 3:
                return net.joins(u, v) ? 1 : 0;
            case 4:
                return Counts.far(net.near, u, v);
            default:
                return NONE;
        }
    }

    public int edge(int u, int v, int what) {
        if (!isTwo(u, v) || what < 0 || what > 4) {
            return NONE;
        }
        if (!net.joins(u, v)) {
            return STATE;
        }
        switch (what) {
            case 0:
                return Counts.shared(net.near, u, v);
            case 1:
                peeling.follow(net.near);
                return peeling.trusses[pairOf(u, v)];
            case 2:
                peeling.follow(net.near);
                return peeling.turns[pairOf(u, v)];
            case 3:
                return Counts.waysByThree(net.near, u, v);
            default:
                return Counts.foursOn(net.near, u, v);
        }
    }

    public int swap(int u, int v, int x, int y) {
        if (!isTwo(u, v) || !isTwo(x, y) || u == x || u == y || v == x || v == y) {
            return NONE;
        }
        if (!net.joins(u, v) || !net.joins(x, y) || net.joins(u, y) || net.joins(x, v)) {
            return STATE;
        }
        int first = net.worths[pairOf(u, v)];
        int second = net.worths[pairOf(x, y)];
        net.drop(u, v);
        net.drop(x, y);
        net.bring(u, y, first);
        net.bring(x, v, second);
        return Counts.triangles(net.near);
    }

    public long near(int u) {
        return isVertex(u) ? net.near[u] : NO;
    }

    public long told(int what) {
        switch (what) {
            case 0:
                return net.edges;
            case 1:
                return Counts.triangles(net.near);
            case 2:
                return Counts.rings(net.near);
            case 3:
                return net.span;
            case 4:
                return net.bound();
            case 5:
                return net.heavy;
            case 6:
                return net.moves;
            case 7:
                return net.carried;
            case 8:
                return net.rebases;
            case 9:
                return net.changes;
            case 10:
                return net.past.size;
            case 11:
                return Counts.twos(net.near);
            case 12:
                return sheet.length;
            case 13:
                return Counts.fours(net.near);
            default:
                return NO;
        }
    }

    // ---- trusses, cores

    public int truss(int k) {
        peeling.follow(net.near);
        return peeling.edgesFrom(k);
    }

    public int pieces(int k) {
        peeling.follow(net.near);
        return peeling.piecesFrom(k);
    }

    public int hood(int u, int v, int k) {
        if (!isTwo(u, v)) {
            return NONE;
        }
        if (!net.joins(u, v)) {
            return STATE;
        }
        peeling.follow(net.near);
        return peeling.hoodOf(pairOf(u, v), k);
    }

    public int hoods(int k) {
        peeling.follow(net.near);
        return peeling.hoodsFrom(k);
    }

    public long core(int k) {
        return Counts.coreWithin(net.near, ALL_VERTICES, k);
    }

    public int peeled(int i, int what) {
        peeling.follow(net.near);
        if (i < 0 || i >= peeling.edges || what < 0 || what > 2) {
            return NONE;
        }
        int pair = peeling.order[i];
        switch (what) {
            case 0:
                return pair / VERTICES;
            case 1:
                return pair % VERTICES;
            default:
                return peeling.trusses[pair];
        }
    }

    public long closed(int u, int part) {
        if (u < -1 || u >= VERTICES || part < 0 || part > 1) {
            return NO;
        }
        int above = u < 0 ? 3 * Counts.triangles(net.near) : Counts.trianglesAt(net.near, u);
        int below = u < 0 ? Counts.twos(net.near) : Counts.twosAt(net.near, u);
        int common = greatestDivisor(above, below);
        if (below < 1 || common < 1) {
            return NO;
        }
        return part == 0 ? above / common : below / common;
    }

    public long value() {
        long sum = 0;
        for (int u = 0; u < VERTICES; u++) {
            for (int v = u + 1; v < VERTICES; v++) {
                long thirds = net.joins(u, v) ? net.near[u] & net.near[v] & above(v) : 0;
                for (int w = v + 1; w < VERTICES && thirds != 0; w++) {
                    if (!hasBit(thirds, w)) {
                        continue;
                    }
                    // Three WORTHS make 8 times 10 to the 18th at most: a product is always a long.
                    long product = (long) net.worths[pairOf(u, v)] * net.worths[pairOf(u, w)]
                        * net.worths[pairOf(v, w)];
                    if (sumLeavesLong(sum, product)) {
                        return OVER;
                    }
                    sum += product;
                }
            }
        }
        return sum;
    }

    public int broken(int what) {
        if (what < 0 || what > 2) {
            return NONE;
        }
        breaking.breakAll(net.near);
        if (what == 0) {
            return breaking.gone;
        }
        if (breaking.gone == 0) {
            return NO_SUCH;
        }
        return what == 1 ? breaking.firstPair / VERTICES : breaking.firstPair % VERTICES;
    }

    public int fewest() {
        return breaking.fewestOf(net.near);
    }

    // ---- texts

    public int feed(int letter) {
        if (letter < 1 || letter > 127) {
            return BAD;
        }
        if (tape.length >= MOST_BYTES) {
            return FULL;
        }
        tape.append(letter);
        return tape.length;
    }

    public int clear() {
        int had = tape.length;
        tape.length = 0;
        return had;
    }

    public int batch() {
        batchText.read(tape);
        tape.length = 0;
        if (tape.hasFault()) {
            return FAULTY - tape.fault;
        }
        long before = net.changes;
        for (int i = 0; i < batchText.count; i++) {
            doPart(i);
        }
        return (int) (net.changes - before);
    }

    public int pick() {
        long found = pickText.read(tape, net);
        tape.length = 0;
        if (tape.hasFault()) {
            return FAULTY - tape.fault;
        }
        net.picked = found;
        return Long.bitCount(found);
    }

    public long picked() {
        return net.picked;
    }

    public int spell() {
        sheet.length = 0;
        for (int u = 0; u < VERTICES; u++) {
            for (int v = u + 1; v < VERTICES; v++) {
                if (net.joins(u, v)) {
                    sheet.writeEdge(u, v, net.worths[pairOf(u, v)]);
                }
            }
        }
        return sheet.length;
    }

    public int paper(int i) {
        return i < 0 || i >= sheet.length ? NONE : sheet.bytes[i];
    }

    public int back(int n) {
        if (n < 0 || n > MOST_BACK) {
            return BAD;
        }
        return net.takeBack(n);
    }

    // ---- lists, the image

    public int list(int list, int n) {
        Row row = rowOf(list);
        if (row == null) {
            return NONE;
        }
        if (n > MOST_PLACES) {
            return BAD;
        }
        if (n < 0) {
            return BELOW;
        }
        row.begin(n);
        return 1;
    }

    public int set(int list, int i, long v) {
        Row row = rowOf(list);
        if (row == null) {
            return NONE;
        }
        if (!row.there) {
            return NOTHING;
        }
        if (row.placesFrom(i) == 0) {
            return BEYOND;
        }
        row.put(i, v);
        return 1;
    }

    public long get(int list, int i) {
        Row row = rowOf(list);
        if (row == null || row.placesFrom(i) == 0) {
            return NO;
        }
        return row.cells[i];
    }

    public int move(int list, int i, int other, int j, int n) {
        Row from = rowOf(list);
        Row to = rowOf(other);
        if (from == null || to == null) {
            return NONE;
        }
        if (!from.there || !to.there) {
            return NOTHING;
        }
        if (from.ofInts != to.ofInts) {
            return CAST;
        }
        if (n < 0 || i < 0 || j < 0 || n > from.size - i || n > to.size - j) {
            return BEYOND;
        }
        System.arraycopy(from.cells, i, to.cells, j, n);
        return n;
    }

    public int lay(int list, int i, int sort) {
        Row row = rowOf(list);
        if (row == null || !isSort(sort)) {
            return NONE;
        }
        if (!row.there) {
            return NOTHING;
        }
        Counts.layFigures(net.near, sort, figures);
        int places = Math.min(VERTICES, row.placesFrom(i));
        for (int v = 0; v < places; v++) {
            row.put(i + v, figures[v]);
        }
        return places < VERTICES ? BEYOND : VERTICES;
    }

    public int judge(int list, int i, int sort) {
        Row row = rowOf(list);
        if (row == null || !isSort(sort)) {
            return NONE;
        }
        if (!row.there) {
            return NOTHING;
        }
        Counts.layFigures(net.near, sort, figures);
        int places = Math.min(VERTICES, row.placesFrom(i));
        for (int v = 0; v < places; v++) {
            if (row.cells[i + v] != figures[v]) {
                return v;
            }
        }
        return places < VERTICES ? ROW_ENDS + places : NO_SUCH;
    }

    public int image() {
        kept.become(net);
        imageTaken = true;
        return net.edges;
    }

    public int undo() {
        if (!imageTaken) {
            return STATE;
        }
        net.become(kept);
        return net.edges;
    }

    // ---- what the calls share

    private void doPart(int i) {
        int u = batchText.firsts[i];
        int v = batchText.seconds[i];
        int kind = batchText.kinds[i];
        if (kind == '*') {
            for (int w = 0; w < VERTICES; w++) {
                if (net.joins(u, w)) {
                    net.drop(u, w);
                }
            }
        } else if (net.joins(u, v)) {
            if (kind != '+') {
                net.drop(u, v);
            }
        } else if (kind != '-') {
            net.bring(u, v, batchText.worths[i]);
        }
    }

    private static boolean isVertex(int u) {
        return u >= 0 && u < VERTICES;
    }

    private static boolean isTwo(int u, int v) {
        return isVertex(u) && isVertex(v) && u != v;
    }

    /** The LIST of a number; null, if there is no such one. */
    private Row rowOf(int list) {
        return list >= 0 && list < LISTS ? rows[list] : null;
    }

    private static boolean isSort(int sort) {
        return sort >= DEGREES && sort <= RINGS;
    }

    /** Where an EDGE of two VERTICES stands in rows by pairs: greater places are later EDGES. */
    private static int pairOf(int u, int v) {
        return Math.min(u, v) * VERTICES + Math.max(u, v);
    }

    private static boolean hasBit(long bits, int v) {
        return (bits >>> v & 1L) != 0;
    }

    /** Those VERTICES that are greater than v. */
    private static long above(int v) {
        return ALL_VERTICES & (-2L << v);
    }

    private static boolean sumLeavesLong(long a, long b) {
        long sum = a + b;
        return ((a ^ sum) & (b ^ sum)) < 0;
    }

    private static int greatestDivisor(int a, int b) {
        int greater = a;
        int lesser = b;
        for (int step = 0; step < MOST_DIVISIONS && lesser > 0; step++) {
            int rest = greater % lesser;
            greater = lesser;
            lesser = rest;
        }
        return greater;
    }

    /** All that THE IMAGE keeps stands in here, so that an image is one copy. */
    private static final class Net {
        final long[] near = new long[VERTICES];
        final int[] worths = new int[PAIRS];
        final Past past = new Past();
        int edges = 0;
        int span = 1;
        long heavy = 0;
        long moves = 0;
        long carried = 0;
        long rebases = 0;
        long changes = 0;
        long picked = 0;

        boolean joins(int u, int v) {
            return hasBit(near[u], v);
        }

        boolean isHeavy(int u) {
            return hasBit(heavy, u);
        }

        int bound() {
            for (int t = 1; t < VERTICES; t++) {
                if (t * t >= span) {
                    return t;
                }
            }
            // SPAN is at most twice the 780 EDGES that there can be, and 40 times 40 is more.
            return VERTICES;
        }

        void bring(int u, int v, int worth) {
            past.keep(true, u, v, worth);
            come(u, v, worth);
        }

        void drop(int u, int v) {
            past.keep(false, u, v, worths[pairOf(u, v)]);
            go(u, v);
        }

        int takeBack(int n) {
            int done = 0;
            while (done < n && past.size > 0) {
                past.size--;
                int u = past.firstOf(past.size);
                int v = past.secondOf(past.size);
                // The opposite CHANGE may not go back itself, so it is not kept in the past.
                if (past.hadCome(past.size)) {
                    go(u, v);
                } else {
                    come(u, v, past.worthOf(past.size));
                }
                done++;
            }
            return done;
        }

        void become(Net other) {
            System.arraycopy(other.near, 0, near, 0, VERTICES);
            System.arraycopy(other.worths, 0, worths, 0, PAIRS);
            past.become(other.past);
            edges = other.edges;
            span = other.span;
            heavy = other.heavy;
            moves = other.moves;
            carried = other.carried;
            rebases = other.rebases;
            changes = other.changes;
            picked = other.picked;
        }

        private void come(int u, int v, int worth) {
            near[u] |= 1L << v;
            near[v] |= 1L << u;
            worths[pairOf(u, v)] = worth;
            edges++;
            changes++;
            if (edges == span) {
                rebase(span * 2);
            } else {
                lookAt(Math.min(u, v));
                lookAt(Math.max(u, v));
            }
        }

        private void go(int u, int v) {
            near[u] &= ~(1L << v);
            near[v] &= ~(1L << u);
            edges--;
            changes++;
            if (edges < span / 4) {
                rebase(Math.max(1, span / 2 - 1));
            } else {
                lookAt(Math.min(u, v));
                lookAt(Math.max(u, v));
            }
        }

        private void rebase(int newSpan) {
            span = newSpan;
            heavy = 0;
            rebases++;
            int bound = bound();
            for (int v = 0; v < VERTICES; v++) {
                if (Counts.degree(near, v) >= bound) {
                    heavy |= 1L << v;
                }
            }
        }

        private void lookAt(int v) {
            int degree = Counts.degree(near, v);
            int bound = bound();
            boolean changesSide = isHeavy(v) ? 2 * degree < bound : 2 * degree >= 3 * bound;
            if (changesSide) {
                heavy ^= 1L << v;
                moves++;
                carried += degree;
            }
        }
    }

    /** The CHANGES that may go back, the earliest first. */
    private static final class Past {
        private static final int CELLS = 4;
        final int[] cells = new int[MOST_BACK * CELLS];
        int size = 0;

        void keep(boolean came, int u, int v, int worth) {
            if (size >= MOST_BACK) {
                System.arraycopy(cells, CELLS, cells, 0, (MOST_BACK - 1) * CELLS);
                size = MOST_BACK - 1;
            }
            int at = size * CELLS;
            cells[at] = came ? 1 : 0;
            cells[at + 1] = u;
            cells[at + 2] = v;
            cells[at + 3] = worth;
            size++;
        }

        boolean hadCome(int i) {
            return cells[i * CELLS] == 1;
        }

        int firstOf(int i) {
            return cells[i * CELLS + 1];
        }

        int secondOf(int i) {
            return cells[i * CELLS + 2];
        }

        int worthOf(int i) {
            return cells[i * CELLS + 3];
        }

        void become(Past other) {
            System.arraycopy(other.cells, 0, cells, 0, cells.length);
            size = other.size;
        }
    }

    /** What is counted in rows that hold, VERTEX by VERTEX, those NEAR it (as bits). */
    private static final class Counts {
        static int degree(long[] near, int u) {
            return Long.bitCount(near[u]);
        }

        static int shared(long[] near, int u, int v) {
            return Long.bitCount(near[u] & near[v]);
        }

        static int trianglesAt(long[] near, int u) {
            int count = 0;
            for (int v = 0; v < VERTICES; v++) {
                if (hasBit(near[u], v)) {
                    count += shared(near, u, v);
                }
            }
            return count / 2;
        }

        static int triangles(long[] near) {
            int count = 0;
            for (int u = 0; u < VERTICES; u++) {
                count += trianglesAt(near, u);
            }
            return count / 3;
        }

        static int twosAt(long[] near, int u) {
            int degree = degree(near, u);
            return degree * (degree - 1) / 2;
        }

        static int twos(long[] near) {
            int count = 0;
            for (int u = 0; u < VERTICES; u++) {
                count += twosAt(near, u);
            }
            return count;
        }

        /** Each RING that has u has just one VERTEX opposite to u, and two of those NEAR both. */
        static int ringsAt(long[] near, int u) {
            int count = 0;
            for (int w = 0; w < VERTICES; w++) {
                if (w != u) {
                    int shared = shared(near, u, w);
                    count += shared * (shared - 1) / 2;
                }
            }
            return count;
        }

        static int rings(long[] near) {
            int count = 0;
            for (int u = 0; u < VERTICES; u++) {
                count += ringsAt(near, u);
            }
            return count / 4;
        }

        static int foursOn(long[] near, int u, int v) {
            long both = near[u] & near[v];
            int count = 0;
            for (int w = 0; w < VERTICES; w++) {
                if (hasBit(both, w)) {
                    count += Long.bitCount(both & near[w]);
                }
            }
            return count / 2;
        }

        static int foursAt(long[] near, int u) {
            int count = 0;
            for (int v = 0; v < VERTICES; v++) {
                if (hasBit(near[u], v)) {
                    count += foursOn(near, u, v);
                }
            }
            return count / 3;
        }

        static int fours(long[] near) {
            int count = 0;
            for (int u = 0; u < VERTICES; u++) {
                count += foursAt(near, u);
            }
            return count / 4;
        }

        static int waysByThree(long[] near, int u, int v) {
            long starts = near[u] & ~(1L << v);
            long ends = near[v] & ~(1L << u);
            int count = 0;
            for (int a = 0; a < VERTICES; a++) {
                if (hasBit(starts, a)) {
                    count += Long.bitCount(near[a] & ends);
                }
            }
            return count;
        }

        static int far(long[] near, int u, int v) {
            long reached = 1L << u;
            for (int steps = 1; steps < VERTICES; steps++) {
                reached |= nearAny(near, reached);
                if (hasBit(reached, v)) {
                    return steps;
                }
            }
            return NO_SUCH;
        }

        /** Those that are NEAR some VERTEX of a set. */
        static long nearAny(long[] near, long set) {
            long found = 0;
            for (int v = 0; v < VERTICES; v++) {
                if ((near[v] & set) != 0) {
                    found |= 1L << v;
                }
            }
            return found;
        }

        /** Those that are NEAR no VERTEX but of a set. */
        static long nearOnly(long[] near, long set) {
            long found = 0;
            for (int v = 0; v < VERTICES; v++) {
                if ((near[v] & ~set) == 0) {
                    found |= 1L << v;
                }
            }
            return found;
        }

        /** The greatest set within another in which each VERTEX has k or more NEAR it. */
        static long coreWithin(long[] near, long set, int k) {
            long left = set;
            for (int round = 0; round <= VERTICES; round++) {
                long staying = 0;
                for (int v = 0; v < VERTICES; v++) {
                    if (hasBit(left, v) && Long.bitCount(near[v] & left) >= k) {
                        staying |= 1L << v;
                    }
                }
                if (staying == left) {
                    break;
                }
                left = staying;
            }
            return left;
        }

        static void layCores(long[] near, int[] into) {
            Arrays.fill(into, 0);
            long left = ALL_VERTICES;
            for (int k = 1; k < VERTICES && left != 0; k++) {
                left = coreWithin(near, left, k);
                for (int v = 0; v < VERTICES; v++) {
                    if (hasBit(left, v)) {
                        into[v] = k;
                    }
                }
            }
        }

        static void layFigures(long[] near, int sort, int[] into) {
            if (sort == CORES) {
                layCores(near, into);
                return;
            }
            for (int v = 0; v < VERTICES; v++) {
                if (sort == DEGREES) {
                    into[v] = degree(near, v);
                } else {
                    into[v] = sort == TRIANGLES ? trianglesAt(near, v) : ringsAt(near, v);
                }
            }
        }
    }

    /** TRUSSES, TURNS and what follows from them; made anew only if the EDGES are others than the last time. */
    private static final class Peeling {
        final long[] near = new long[VERTICES];
        final long[] left = new long[VERTICES];
        final int[] supports = new int[PAIRS];
        final int[] trusses = new int[PAIRS];
        final int[] turns = new int[PAIRS];
        final int[] order = new int[MOST_EDGES];
        final int[] waiting = new int[MOST_EDGES];
        final int[] seen = new int[PAIRS];
        int edges = 0;

        void follow(long[] netNear) {
            boolean same = true;
            for (int v = 0; v < VERTICES; v++) {
                same = same && near[v] == netNear[v];
            }
            if (!same) {
                System.arraycopy(netNear, 0, near, 0, VERTICES);
                gather();
                peel();
            }
        }

        private void gather() {
            System.arraycopy(near, 0, left, 0, VERTICES);
            edges = 0;
            for (int u = 0; u < VERTICES; u++) {
                for (int v = u + 1; v < VERTICES; v++) {
                    if (hasBit(near[u], v) && edges < MOST_EDGES) {
                        int pair = pairOf(u, v);
                        order[edges] = pair;
                        supports[pair] = Counts.shared(near, u, v);
                        edges++;
                    }
                }
            }
        }

        private void peel() {
            int truss = 2;
            for (int turn = 0; turn < edges; turn++) {
                int place = leastFrom(turn);
                int pair = order[place];
                order[place] = order[turn];
                order[turn] = pair;
                // A SUPPORT that sinks while others go lowers no TRUSS: the greatest least one so far counts.
                truss = Math.max(truss, supports[pair] + 2);
                trusses[pair] = truss;
                turns[pair] = turn;
                takeAway(pair / VERTICES, pair % VERTICES);
            }
        }

        private int leastFrom(int turn) {
            int best = turn;
            for (int i = turn + 1; i < edges; i++) {
                int less = supports[order[i]] - supports[order[best]];
                if (less < 0 || less == 0 && order[i] < order[best]) {
                    best = i;
                }
            }
            return best;
        }

        private void takeAway(int u, int v) {
            left[u] &= ~(1L << v);
            left[v] &= ~(1L << u);
            long both = left[u] & left[v];
            for (int w = 0; w < VERTICES; w++) {
                if (hasBit(both, w)) {
                    supports[pairOf(u, w)]--;
                    supports[pairOf(v, w)]--;
                }
            }
        }

        int edgesFrom(int k) {
            int count = 0;
            for (int i = 0; i < edges; i++) {
                if (trusses[order[i]] >= k) {
                    count++;
                }
            }
            return count;
        }

        int piecesFrom(int k) {
            Arrays.fill(left, 0);
            for (int i = 0; i < edges; i++) {
                int pair = order[i];
                if (trusses[pair] >= k) {
                    left[pair / VERTICES] |= 1L << pair % VERTICES;
                    left[pair % VERTICES] |= 1L << pair / VERTICES;
                }
            }
            long told = 0;
            int count = 0;
            for (int v = 0; v < VERTICES; v++) {
                if (left[v] != 0 && !hasBit(told, v)) {
                    told |= pieceOf(v);
                    count++;
                }
            }
            return count;
        }

        private long pieceOf(int v) {
            long piece = 1L << v;
            for (int steps = 1; steps < VERTICES; steps++) {
                long wider = piece | Counts.nearAny(left, piece);
                if (wider == piece) {
                    break;
                }
                piece = wider;
            }
            return piece;
        }

        int hoodOf(int pair, int k) {
            if (trusses[pair] < k) {
                return 0;
            }
            Arrays.fill(seen, 0);
            return walkFrom(pair, k);
        }

        int hoodsFrom(int k) {
            Arrays.fill(seen, 0);
            int count = 0;
            for (int i = 0; i < edges; i++) {
                if (trusses[order[i]] >= k && seen[order[i]] == 0) {
                    walkFrom(order[i], k);
                    count++;
                }
            }
            return count;
        }

        /** Marks the HOOD of an EDGE whose TRUSS is k or more: how many EDGES that has. */
        private int walkFrom(int pair, int k) {
            seen[pair] = 1;
            waiting[0] = pair;
            int found = 1;
            for (int done = 0; done < found && done < MOST_EDGES; done++) {
                int u = waiting[done] / VERTICES;
                int v = waiting[done] % VERTICES;
                long both = near[u] & near[v];
                for (int w = 0; w < VERTICES; w++) {
                    if (hasBit(both, w) && trusses[pairOf(u, w)] >= k && trusses[pairOf(v, w)] >= k) {
                        found = meet(pairOf(u, w), found);
                        found = meet(pairOf(v, w), found);
                    }
                }
            }
            return found;
        }

        private int meet(int pair, int found) {
            if (seen[pair] != 0 || found >= MOST_EDGES) {
                return found;
            }
            seen[pair] = 1;
            waiting[found] = pair;
            return found + 1;
        }
    }

    /** What breaks all TRIANGLES, tried on a copy: the net itself keeps its EDGES. */
    private static final class Breaking {
        final long[] left = new long[VERTICES];
        int gone = 0;
        int firstPair = 0;

        void breakAll(long[] near) {
            System.arraycopy(near, 0, left, 0, VERTICES);
            gone = 0;
            for (int turn = 0; turn < MOST_EDGES; turn++) {
                int pair = mostSupported();
                if (pair < 0) {
                    return;
                }
                if (gone == 0) {
                    firstPair = pair;
                }
                gone++;
                flip(left, pair / VERTICES, pair % VERTICES);
            }
        }

        private int mostSupported() {
            int best = -1;
            int most = 0;
            for (int u = 0; u < VERTICES; u++) {
                for (int v = u + 1; v < VERTICES; v++) {
                    if (hasBit(left[u], v) && Counts.shared(left, u, v) > most) {
                        most = Counts.shared(left, u, v);
                        best = pairOf(u, v);
                    }
                }
            }
            return best;
        }

        int fewestOf(long[] near) {
            System.arraycopy(near, 0, left, 0, VERTICES);
            for (int n = 0; n <= MOST_FEWEST; n++) {
                if (breaksWith(left, n)) {
                    return n;
                }
            }
            return NO_SUCH;
        }

        /** Of any TRIANGLE one of the three EDGES has to go: so no other one need be tried. */
        private static boolean breaksWith(long[] left, int n) {
            int triangle = anyTriangle(left);
            if (triangle < 0) {
                return true;
            }
            if (n <= 0) {
                return false;
            }
            int u = triangle / PAIRS;
            int v = triangle / VERTICES % VERTICES;
            int w = triangle % VERTICES;
            return breaksWithout(left, u, v, n) || breaksWithout(left, u, w, n) || breaksWithout(left, v, w, n);
        }

        private static boolean breaksWithout(long[] left, int u, int v, int n) {
            flip(left, u, v);
            boolean breaks = breaksWith(left, n - 1);
            flip(left, u, v);
            return breaks;
        }

        private static int anyTriangle(long[] left) {
            for (int u = 0; u < VERTICES; u++) {
                for (int v = u + 1; v < VERTICES; v++) {
                    long both = hasBit(left[u], v) ? left[u] & left[v] & above(v) : 0;
                    if (both != 0) {
                        return u * PAIRS + v * VERTICES + Long.numberOfTrailingZeros(both);
                    }
                }
            }
            return -1;
        }

        private static void flip(long[] left, int u, int v) {
            left[u] ^= 1L << v;
            left[v] ^= 1L << u;
        }
    }

    /** The bytes of THE TAPE, with a place that goes over them and the first FAULT that is found there. */
    private static final class Tape {
        private static final int NO_FAULT = -1;
        private static final int END = -1;
        final byte[] bytes = new byte[MOST_BYTES];
        int length = 0;
        int place = 0;
        int fault = NO_FAULT;

        void append(int letter) {
            if (length < MOST_BYTES) {
                bytes[length] = (byte) letter;
                length++;
            }
        }

        void rewind() {
            place = 0;
            fault = NO_FAULT;
        }

        boolean hasFault() {
            return fault != NO_FAULT;
        }

        /** The first FAULT counts; nothing stands behind it, so that whoever reads comes to an end. */
        void fail(int at) {
            if (fault == NO_FAULT) {
                fault = at;
                place = length;
            }
        }

        int next() {
            return place < length && place < MOST_BYTES ? bytes[place] : END;
        }

        boolean takes(int letter) {
            boolean stands = next() == letter;
            if (stands) {
                place++;
            }
            return stands;
        }

        void need(int letter) {
            if (!takes(letter)) {
                fail(place);
            }
        }

        void needEnd() {
            if (place < length) {
                fail(place);
            }
        }

        /** A number of so many figures at most; one above the greatest is a FAULT where it begins. */
        int number(int mostFigures, int greatest) {
            int begin = place;
            int number = 0;
            for (int i = 0; i < mostFigures; i++) {
                int letter = next();
                if (letter < '0' || letter > '9') {
                    break;
                }
                number = number * 10 + (letter - '0');
                place++;
            }
            if (place == begin || number > greatest) {
                fail(begin);
            }
            return number;
        }
    }

    /** A BATCH is read whole before any part of it is done: a FAULT at its end leaves the net as it was. */
    private static final class BatchText {
        // The shortest part has two bytes, and one more parts it from the next.
        private static final int MOST_PARTS = MOST_BYTES / 3 + 1;
        final int[] kinds = new int[MOST_PARTS];
        final int[] firsts = new int[MOST_PARTS];
        final int[] seconds = new int[MOST_PARTS];
        final int[] worths = new int[MOST_PARTS];
        int count = 0;

        void read(Tape tape) {
            tape.rewind();
            count = 0;
            for (int i = 0; i < MOST_PARTS; i++) {
                readPart(tape, i);
                count++;
                if (!tape.takes(';')) {
                    break;
                }
            }
            tape.needEnd();
        }

        private void readPart(Tape tape, int i) {
            int kind = tape.next();
            if (kind != '+' && kind != '-' && kind != '~' && kind != '*') {
                tape.fail(tape.place);
                return;
            }
            tape.place++;
            kinds[i] = kind;
            firsts[i] = readVertex(tape);
            seconds[i] = firsts[i];
            worths[i] = 1;
            if (kind != '*') {
                tape.need(',');
                seconds[i] = readOther(tape, firsts[i]);
            }
            if (kind == '+' && tape.takes('=')) {
                worths[i] = readWorth(tape);
            }
        }

        private static int readVertex(Tape tape) {
            return tape.number(2, VERTICES - 1);
        }

        private static int readOther(Tape tape, int first) {
            int begin = tape.place;
            int second = readVertex(tape);
            if (second == first) {
                tape.fail(begin);
            }
            return second;
        }

        private static int readWorth(Tape tape) {
            boolean below = tape.takes('-');
            int worth = tape.number(7, MOST_WORTH);
            return below ? -worth : worth;
        }
    }

    /** A PICK is read and answered in one go: each part of it is the set of VERTICES for which it holds. */
    private static final class PickText {
        private static final int MOST_DEEP = 4;
        private static final int MOST_NUMBER = 999;
        final long[] near = new long[VERTICES];
        final int[] numbers = new int[VERTICES];
        final int[] degrees = new int[VERTICES];
        final int[] triangles = new int[VERTICES];
        final int[] cores = new int[VERTICES];
        final int[] heavies = new int[VERTICES];

        long read(Tape tape, Net net) {
            System.arraycopy(net.near, 0, near, 0, VERTICES);
            Counts.layFigures(near, DEGREES, degrees);
            Counts.layFigures(near, TRIANGLES, triangles);
            Counts.layFigures(near, CORES, cores);
            for (int v = 0; v < VERTICES; v++) {
                numbers[v] = v;
                heavies[v] = net.isHeavy(v) ? 1 : 0;
            }
            tape.rewind();
            long found = either(tape, 0);
            tape.needEnd();
            return found;
        }

        private long either(Tape tape, int depth) {
            long found = both(tape, depth);
            for (int i = 0; i < MOST_BYTES && tape.takes('|'); i++) {
                found |= both(tape, depth);
            }
            return found;
        }

        private long both(Tape tape, int depth) {
            long found = single(tape, depth);
            for (int i = 0; i < MOST_BYTES && tape.takes('&'); i++) {
                found &= single(tape, depth);
            }
            return found;
        }

        private long single(Tape tape, int depth) {
            int letter = tape.next();
            if (letter != '(' && letter != '!' && letter != 'S' && letter != 'A') {
                return test(tape);
            }
            if (depth >= MOST_DEEP) {
                tape.fail(tape.place);
                return 0;
            }
            tape.place++;
            if (letter == '(') {
                long inner = either(tape, depth + 1);
                tape.need(')');
                return inner;
            }
            long inner = single(tape, depth + 1);
            if (letter == '!') {
                return ALL_VERTICES & ~inner;
            }
            return letter == 'S' ? Counts.nearAny(near, inner) : Counts.nearOnly(near, inner);
        }

        private long test(Tape tape) {
            int[] figures = figuresOf(tape.next());
            if (figures == null) {
                tape.fail(tape.place);
                return 0;
            }
            tape.place++;
            int sign = tape.next();
            if (sign != '<' && sign != '=' && sign != '>') {
                tape.fail(tape.place);
                return 0;
            }
            tape.place++;
            int number = tape.number(3, MOST_NUMBER);
            long found = 0;
            for (int v = 0; v < VERTICES; v++) {
                if (holds(figures[v], sign, number)) {
                    found |= 1L << v;
                }
            }
            return found;
        }

        /** What a letter means, VERTEX by VERTEX; null, if it means nothing. */
        private int[] figuresOf(int letter) {
            switch (letter) {
                case 'n':
                    return numbers;
                case 'd':
                    return degrees;
                case 't':
                    return triangles;
                case 'c':
                    return cores;
                case 'h':
                    return heavies;
                default:
                    return null;
            }
        }

        private static boolean holds(int figure, int sign, int number) {
            if (sign == '<') {
                return figure < number;
            }
            return sign == '=' ? figure == number : figure > number;
        }
    }

    /** THE PAPER; its row grows, since few nets need the 12,480 bytes that the fullest one does. */
    private static final class Paper {
        private static final int FIRST_BYTES = 128;
        private static final int MOST_WRITTEN = 16 * MOST_EDGES;
        byte[] bytes = new byte[FIRST_BYTES];
        int length = 0;

        void writeEdge(int u, int v, int worth) {
            if (length > 0) {
                write(';');
            }
            write('+');
            writeNumber(u);
            write(',');
            writeNumber(v);
            if (worth != 1) {
                write('=');
                if (worth < 0) {
                    write('-');
                }
                writeNumber(Math.abs(worth));
            }
        }

        private void writeNumber(int number) {
            boolean begun = false;
            for (int unit = 1000000; unit > 0; unit /= 10) {
                begun = begun || number >= unit || unit == 1;
                if (begun) {
                    write('0' + number / unit % 10);
                }
            }
        }

        private void write(int letter) {
            if (length >= MOST_WRITTEN) {
                return;
            }
            if (length >= bytes.length) {
                bytes = Arrays.copyOf(bytes, 2 * bytes.length);
            }
            bytes[length] = (byte) letter;
            length++;
        }
    }

    /** A LIST: ints stand in longs too, cut to their lowest 32 bits as they are put. */
    private static final class Row {
        final boolean ofInts;
        final long[] cells = new long[MOST_PLACES];
        boolean there = false;
        int size = 0;

        Row(boolean ofInts) {
            this.ofInts = ofInts;
        }

        void begin(int n) {
            there = true;
            size = n;
            Arrays.fill(cells, 0);
        }

        /** How many places there are from i on (none, if i is no place). */
        int placesFrom(int i) {
            return i < 0 || i >= size ? 0 : size - i;
        }

        void put(int i, long v) {
            cells[i] = ofInts ? (int) v : v;
        }
    }
}
