import java.math.BigInteger;
import java.util.ArrayList;
import java.util.Arrays;
import java.util.List;
import java.util.TreeSet;
import java.util.regex.Matcher;
import java.util.regex.Pattern;

/** The document once more, slow and by the letter of its terms: what RingCounts must answer. */
final class PlainNet {
    static final int N = 40;

    private record Change(boolean came, int u, int v, int worth) { }

    /** An EDGE, told by its lesser VERTEX first. */
    record Edge(int u, int v) implements Comparable<Edge> {
        static Edge of(int a, int b) {
            return new Edge(Math.min(a, b), Math.max(a, b));
        }

        public int compareTo(Edge other) {
            return u != other.u ? Integer.compare(u, other.u) : Integer.compare(v, other.v);
        }
    }

    Integer[][] worth = new Integer[N][N];
    boolean[] heavy = new boolean[N];
    long span = 1, moves = 0, carried = 0, rebases = 0, changes = 0;
    boolean[] picked = new boolean[N];
    List<Change> past = new ArrayList<>();
    PlainNet kept = null;
    StringBuilder tape = new StringBuilder();
    String paper = "";
    long[][] lists = new long[6][];

    // ---- plain looks

    boolean joined(int u, int v) {
        return u != v && worth[u][v] != null;
    }

    static boolean vertex(int u) {
        return 0 <= u && u < N;
    }

    static boolean unlike(int u, int v) {
        return vertex(u) && vertex(v) && u != v;
    }

    TreeSet<Edge> edges() {
        TreeSet<Edge> found = new TreeSet<>();
        for (int u = 0; u < N; u++) {
            for (int v = u + 1; v < N; v++) {
                if (joined(u, v)) {
                    found.add(new Edge(u, v));
                }
            }
        }
        return found;
    }

    int degree(int u) {
        int count = 0;
        for (int v = 0; v < N; v++) {
            count += joined(u, v) ? 1 : 0;
        }
        return count;
    }

    int edgeCount() {
        return edges().size();
    }

    List<int[]> triangles() {
        List<int[]> found = new ArrayList<>();
        for (int u = 0; u < N; u++) {
            for (int v = u + 1; v < N; v++) {
                for (int w = v + 1; joined(u, v) && w < N; w++) {
                    if (joined(u, w) && joined(v, w)) {
                        found.add(new int[] {u, v, w});
                    }
                }
            }
        }
        return found;
    }

    /** Each RING once: its least VERTEX first, the lesser of that one's two next. */
    List<int[]> rings() {
        List<int[]> found = new ArrayList<>();
        for (int a = 0; a < N; a++) {
            for (int b = a + 1; b < N; b++) {
                for (int c = a + 1; joined(a, b) && c < N; c++) {
                    for (int d = b + 1; joined(b, c) && d < N; d++) {
                        if (c != d && joined(c, d) && joined(d, a)) {
                            found.add(new int[] {a, b, c, d});
                        }
                    }
                }
            }
        }
        return found;
    }

    List<int[]> fours() {
        List<int[]> found = new ArrayList<>();
        for (int[] t : triangles()) {
            for (int d = t[2] + 1; d < N; d++) {
                if (joined(t[0], d) && joined(t[1], d) && joined(t[2], d)) {
                    found.add(new int[] {t[0], t[1], t[2], d});
                }
            }
        }
        return found;
    }

    static int having(List<int[]> sets, int... wanted) {
        int count = 0;
        for (int[] set : sets) {
            boolean all = true;
            for (int w : wanted) {
                boolean in = false;
                for (int s : set) {
                    in |= s == w;
                }
                all &= in;
            }
            count += all ? 1 : 0;
        }
        return count;
    }

    int ringsOnEdge(int u, int v) {
        int count = 0;
        for (int[] r : rings()) {
            for (int i = 0; i < 4; i++) {
                if (Edge.of(r[i], r[(i + 1) % 4]).equals(Edge.of(u, v))) {
                    count++;
                }
            }
        }
        return count;
    }

    long bound() {
        long t = (long) Math.ceil(Math.sqrt((double) span));
        return Math.max(t, 1);
    }

    // ---- changes

    void change(boolean came, int u, int v, int w, boolean remembered) {
        if (remembered) {
            past.add(new Change(came, u, v, came ? w : worth[u][v]));
            if (past.size() > 60) {
                past.remove(0);
            }
        }
        worth[u][v] = came ? Integer.valueOf(w) : null;
        worth[v][u] = worth[u][v];
        changes++;
        if (came && edgeCount() == span) {
            span = 2 * span;
            rebase();
        } else if (!came && edgeCount() < span / 4) {
            span = span / 2 - 1 < 1 ? 1 : span / 2 - 1;
            rebase();
        } else {
            for (int x : new int[] {Math.min(u, v), Math.max(u, v)}) {
                if (!heavy[x] && 2 * degree(x) >= 3 * bound() || heavy[x] && 2 * degree(x) < bound()) {
                    heavy[x] = !heavy[x];
                    moves++;
                    carried += degree(x);
                }
            }
        }
    }

    private void rebase() {
        rebases++;
        for (int x = 0; x < N; x++) {
            heavy[x] = degree(x) >= bound();
        }
    }

    // ---- the calls: edges

    int add(int u, int v, int w) {
        if (!unlike(u, v)) {
            return -1;
        }
        if (w < -2000000 || w > 2000000) {
            return -2;
        }
        if (joined(u, v)) {
            return -3;
        }
        change(true, u, v, w, true);
        return having(triangles(), u, v);
    }

    int cut(int u, int v) {
        if (!unlike(u, v)) {
            return -1;
        }
        if (!joined(u, v)) {
            return -3;
        }
        int had = having(triangles(), u, v);
        change(false, u, v, 0, true);
        return had;
    }

    long worth(int u, int v) {
        return unlike(u, v) && joined(u, v) ? worth[u][v] : Long.MIN_VALUE;
    }

    int of(int u, int what) {
        if (!vertex(u)) {
            return -1;
        }
        return switch (what) {
            case 0 -> degree(u);
            case 1 -> having(triangles(), u);
            case 2 -> heavy[u] ? 1 : 0;
            case 3 -> coreOf(u);
            case 4 -> having(rings(), u);
            case 5 -> having(fours(), u);
            default -> -1;
        };
    }

    int two(int u, int v, int what) {
        if (!unlike(u, v) || what < 0 || what > 4) {
            return -1;
        }
        int shared = 0;
        int wedges = 0;
        int ways = 0;
        for (int a = 0; a < N; a++) {
            if (joined(u, a) && joined(v, a)) {
                shared++;
                wedges += heavy[a] ? 0 : 1;
            }
            for (int b = 0; b < N; b++) {
                if (a != b && a != u && a != v && b != u && b != v) {
                    ways += joined(u, a) && joined(a, b) && joined(b, v) ? 1 : 0;
                }
            }
        }
        return switch (what) {
            case 0 -> shared;
            case 1 -> wedges;
            case 2 -> ways;
            case 3 -> joined(u, v) ? 1 : 0;
            default -> far(u, v);
        };
    }

    private int far(int u, int v) {
        int[] steps = new int[N];
        Arrays.fill(steps, 1000);
        steps[u] = 0;
        for (int round = 0; round < N; round++) {
            for (Edge e : edges()) {
                steps[e.u] = Math.min(steps[e.u], steps[e.v] + 1);
                steps[e.v] = Math.min(steps[e.v], steps[e.u] + 1);
            }
        }
        return steps[v] >= 1000 ? -5 : steps[v];
    }

    int edge(int u, int v, int what) {
        if (!unlike(u, v) || what < 0 || what > 4) {
            return -1;
        }
        if (!joined(u, v)) {
            return -3;
        }
        return switch (what) {
            case 0 -> having(triangles(), u, v);
            case 1 -> trussOf(Edge.of(u, v));
            case 2 -> peeling().indexOf(Edge.of(u, v));
            case 3 -> ringsOnEdge(u, v);
            default -> having(fours(), u, v);
        };
    }

    int swap(int u, int v, int x, int y) {
        TreeSet<Integer> all = new TreeSet<>(Arrays.asList(u, v, x, y));
        if (all.size() != 4 || all.first() < 0 || all.last() >= N) {
            return -1;
        }
        if (!joined(u, v) || !joined(x, y) || joined(u, y) || joined(x, v)) {
            return -3;
        }
        int first = worth[u][v];
        int second = worth[x][y];
        change(false, u, v, 0, true);
        change(false, x, y, 0, true);
        change(true, u, y, first, true);
        change(true, x, v, second, true);
        return triangles().size();
    }

    long near(int u) {
        if (!vertex(u)) {
            return Long.MIN_VALUE;
        }
        boolean[] near = new boolean[N];
        for (int v = 0; v < N; v++) {
            near[v] = joined(u, v);
        }
        return bits(near);
    }

    static long bits(boolean[] set) {
        long bits = 0;
        for (int v = 0; v < N; v++) {
            bits += set[v] ? 1L << v : 0;
        }
        return bits;
    }

    long told(int what) {
        int twos = 0;
        for (int u = 0; u < N; u++) {
            for (int i = 1; i < degree(u); i++) {
                twos += i;
            }
        }
        return switch (what) {
            case 0 -> edgeCount();
            case 1 -> triangles().size();
            case 2 -> rings().size();
            case 3 -> span;
            case 4 -> bound();
            case 5 -> bits(heavy);
            case 6 -> moves;
            case 7 -> carried;
            case 8 -> rebases;
            case 9 -> changes;
            case 10 -> past.size();
            case 11 -> twos;
            case 12 -> paper.length();
            case 13 -> fours().size();
            default -> Long.MIN_VALUE;
        };
    }

    // ---- trusses, cores

    private static int support(TreeSet<Edge> set, Edge e) {
        int count = 0;
        for (int w = 0; w < N; w++) {
            if (w != e.u && w != e.v && set.contains(Edge.of(e.u, w)) && set.contains(Edge.of(e.v, w))) {
                count++;
            }
        }
        return count;
    }

    /** The greatest set of EDGES each of which has k less 2 TRIANGLES or more within it. */
    TreeSet<Edge> trussSet(int k) {
        TreeSet<Edge> set = edges();
        boolean smaller = true;
        while (smaller) {
            smaller = false;
            for (Edge e : new ArrayList<>(set)) {
                if (support(set, e) < (long) k - 2) {
                    set.remove(e);
                    smaller = true;
                }
            }
        }
        return set;
    }

    int trussOf(Edge e) {
        int truss = 2;
        while (trussSet(truss + 1).contains(e)) {
            truss++;
        }
        return truss;
    }

    List<Edge> peeling() {
        List<Edge> gone = new ArrayList<>();
        TreeSet<Edge> left = edges();
        while (!left.isEmpty()) {
            Edge best = null;
            for (Edge e : left) {
                if (best == null || support(left, e) < support(left, best)) {
                    best = e;
                }
            }
            left.remove(best);
            gone.add(best);
        }
        return gone;
    }

    int truss(int k) {
        return trussSet(k).size();
    }

    int pieces(int k) {
        int[] piece = new int[N];
        for (int v = 0; v < N; v++) {
            piece[v] = v;
        }
        TreeSet<Integer> roots = new TreeSet<>();
        for (int round = 0; round < N; round++) {
            for (Edge e : trussSet(k)) {
                piece[e.u] = Math.min(piece[e.u], piece[e.v]);
                piece[e.v] = piece[e.u];
            }
        }
        for (Edge e : trussSet(k)) {
            roots.add(piece[e.u]);
        }
        return roots.size();
    }

    private TreeSet<Edge> hoodOf(Edge start, TreeSet<Edge> set) {
        TreeSet<Edge> hood = new TreeSet<>();
        hood.add(start);
        int size = 0;
        while (size != hood.size()) {
            size = hood.size();
            for (int[] t : triangles()) {
                List<Edge> three = List.of(Edge.of(t[0], t[1]), Edge.of(t[1], t[2]), Edge.of(t[0], t[2]));
                if (set.containsAll(three) && three.stream().anyMatch(hood::contains)) {
                    hood.addAll(three);
                }
            }
        }
        return hood;
    }

    int hood(int u, int v, int k) {
        if (!unlike(u, v)) {
            return -1;
        }
        if (!joined(u, v)) {
            return -3;
        }
        TreeSet<Edge> set = trussSet(k);
        return set.contains(Edge.of(u, v)) ? hoodOf(Edge.of(u, v), set).size() : 0;
    }

    int hoods(int k) {
        TreeSet<Edge> set = trussSet(k);
        TreeSet<Edge> rest = new TreeSet<>(set);
        int count = 0;
        while (!rest.isEmpty()) {
            rest.removeAll(hoodOf(rest.first(), set));
            count++;
        }
        return count;
    }

    boolean[] coreSet(int k) {
        boolean[] in = new boolean[N];
        Arrays.fill(in, true);
        boolean smaller = true;
        while (smaller) {
            smaller = false;
            for (int u = 0; u < N; u++) {
                int inside = 0;
                for (int v = 0; v < N; v++) {
                    inside += joined(u, v) && in[v] ? 1 : 0;
                }
                if (in[u] && inside < k) {
                    in[u] = false;
                    smaller = true;
                }
            }
        }
        return in;
    }

    int coreOf(int u) {
        int core = 0;
        while (coreSet(core + 1)[u]) {
            core++;
        }
        return core;
    }

    long core(int k) {
        return bits(coreSet(k));
    }

    int peeled(int i, int what) {
        if (i < 0 || i >= edgeCount() || what < 0 || what > 2) {
            return -1;
        }
        Edge e = peeling().get(i);
        return what == 0 ? e.u : what == 1 ? e.v : trussOf(e);
    }

    long closed(int u, int part) {
        if (u < -1 || u >= N || part < 0 || part > 1) {
            return Long.MIN_VALUE;
        }
        long above = u == -1 ? 3L * triangles().size() : having(triangles(), u);
        long below = u == -1 ? told(11) : degree(u) * (degree(u) - 1L) / 2;
        if (below == 0) {
            return Long.MIN_VALUE;
        }
        long common = BigInteger.valueOf(above).gcd(BigInteger.valueOf(below)).longValue();
        return part == 0 ? above / common : below / common;
    }

    long value() {
        BigInteger sum = BigInteger.ZERO;
        for (int[] t : triangles()) {
            BigInteger product = BigInteger.valueOf(worth[t[0]][t[1]]).multiply(BigInteger.valueOf(worth[t[0]][t[2]]))
                .multiply(BigInteger.valueOf(worth[t[1]][t[2]]));
            sum = sum.add(product);
            if (product.bitLength() > 63 || sum.bitLength() > 63) {
                return Long.MIN_VALUE + 1;
            }
        }
        return sum.longValue();
    }

    int broken(int what) {
        if (what < 0 || what > 2) {
            return -1;
        }
        TreeSet<Edge> left = edges();
        List<Edge> gone = new ArrayList<>();
        while (true) {
            Edge best = null;
            for (Edge e : left) {
                if (best == null || support(left, e) > support(left, best)) {
                    best = e;
                }
            }
            if (best == null || support(left, best) == 0) {
                break;
            }
            left.remove(best);
            gone.add(best);
        }
        if (what == 0) {
            return gone.size();
        }
        return gone.isEmpty() ? -5 : what == 1 ? gone.get(0).u : gone.get(0).v;
    }

    /** Every choice of so many EDGES is tried; only for nets with few of them in TRIANGLES. */
    int fewest() {
        List<int[]> triangles = triangles();
        List<Edge> useful = new ArrayList<>();
        for (Edge e : edges()) {
            if (having(triangles, e.u, e.v) > 0) {
                useful.add(e);
            }
        }
        for (int n = 0; n <= 4; n++) {
            if (someChoiceBreaks(triangles, useful, 0, n)) {
                return n;
            }
        }
        return -5;
    }

    private static boolean someChoiceBreaks(List<int[]> triangles, List<Edge> useful, int from, int n) {
        if (triangles.isEmpty()) {
            return true;
        }
        if (n == 0) {
            return false;
        }
        for (int i = from; i < useful.size(); i++) {
            List<int[]> rest = new ArrayList<>();
            for (int[] t : triangles) {
                if (having(List.of(t), useful.get(i).u, useful.get(i).v) == 0) {
                    rest.add(t);
                }
            }
            if (someChoiceBreaks(rest, useful, i + 1, n - 1)) {
                return true;
            }
        }
        return false;
    }

    // ---- texts

    private static final Pattern BATCH = Pattern.compile(batchRule());
    private static final Pattern PICK = Pattern.compile(pickRule());

    private static String batchRule() {
        String two = "[0-9]{1,2},[0-9]{1,2}";
        String part = "(?:[+]" + two + "(?:=-?[0-9]{1,7})?|[-~]" + two + "|[*][0-9]{1,2})";
        return part + "(?:;" + part + ")*";
    }

    private static String pickRule() {
        String test = "[ndtch][<=>][0-9]{1,3}";
        String single = test;
        for (int depth = 0; depth < 4; depth++) {
            single = "(?:" + test + "|[(]" + single + "(?:[|&]" + single + ")*[)]|[!SA]" + single + ")";
        }
        return single + "(?:[|&]" + single + ")*";
    }

    /** The length of the longest start of a text with which some whole text goes on; -1, if it is whole. */
    private static int place(Pattern rule, String text) {
        if (rule.matcher(text).matches()) {
            return -1;
        }
        int place = 0;
        while (place < text.length()) {
            Matcher start = rule.matcher(text.substring(0, place + 1));
            if (!start.matches() && !start.hitEnd()) {
                break;
            }
            place++;
        }
        return place;
    }

    static int faultOfBatch(String text) {
        int place = place(BATCH, text);
        String good = place < 0 ? text : text.substring(0, place);
        Matcher number = Pattern.compile("(=-?)?([0-9]+)").matcher(good);
        int lastVertex = -1;
        int lastEnd = -1;
        while (number.find()) {
            int n = Integer.parseInt(number.group(2));
            boolean ofWorth = number.group(1) != null;
            boolean second = number.start() > 0 && good.charAt(number.start() - 1) == ','
                && lastEnd == number.start() - 1;
            if (ofWorth ? n > 2000000 : n > 39 || second && n == lastVertex) {
                return number.start(2);
            }
            lastVertex = n;
            lastEnd = number.end();
        }
        return place;
    }

    static int faultOfPick(String text) {
        return place(PICK, text);
    }

    int feed(int letter) {
        if (letter < 1 || letter > 127) {
            return -2;
        }
        if (tape.length() == 160) {
            return -4;
        }
        tape.append((char) letter);
        return tape.length();
    }

    int clear() {
        int had = tape.length();
        tape.setLength(0);
        return had;
    }

    int batch() {
        String text = tape.toString();
        clear();
        int fault = faultOfBatch(text);
        if (fault >= 0) {
            return -100 - fault;
        }
        long before = changes;
        for (String part : text.split(";")) {
            doPart(part.charAt(0), part.substring(1).split("[,=]"));
        }
        return (int) (changes - before);
    }

    private void doPart(char kind, String[] numbers) {
        int u = Integer.parseInt(numbers[0]);
        if (kind == '*') {
            for (int v = 0; v < N; v++) {
                if (joined(u, v)) {
                    change(false, u, v, 0, true);
                }
            }
            return;
        }
        int v = Integer.parseInt(numbers[1]);
        boolean was = joined(u, v);
        if (was && kind != '+') {
            change(false, u, v, 0, true);
        }
        if (!was && kind != '-') {
            change(true, u, v, numbers.length > 2 ? Integer.parseInt(numbers[2]) : 1, true);
        }
    }

    int pick() {
        String text = tape.toString();
        clear();
        int fault = faultOfPick(text);
        if (fault >= 0) {
            return -100 - fault;
        }
        boolean[] found = new boolean[N];
        int count = 0;
        for (int v = 0; v < N; v++) {
            found[v] = new Asking(text, v).whole();
            count += found[v] ? 1 : 0;
        }
        picked = found;
        return count;
    }

    /** Answers a PICK for one VERTEX; a text without a FAULT is taken for granted. */
    private final class Asking {
        private final String text;
        private final int vertex;
        private int place = 0;

        Asking(String text, int vertex) {
            this.text = text;
            this.vertex = vertex;
        }

        boolean whole() {
            return either(vertex);
        }

        private boolean at(char c) {
            return place < text.length() && text.charAt(place) == c;
        }

        private boolean either(int v) {
            boolean holds = both(v);
            if (at('|')) {
                place++;
                holds = either(v) || holds;
            }
            return holds;
        }

        private boolean both(int v) {
            boolean holds = single(v);
            if (at('&')) {
                place++;
                holds = both(v) && holds;
            }
            return holds;
        }

        private boolean single(int v) {
            char c = text.charAt(place++);
            if (c == '!') {
                return !single(v);
            }
            if (c == '(') {
                boolean holds = either(v);
                place++;
                return holds;
            }
            if (c == 'S' || c == 'A') {
                int begin = place;
                boolean some = false;
                boolean all = true;
                single(v);
                int end = place;
                for (int w = 0; w < N; w++) {
                    if (joined(v, w)) {
                        place = begin;
                        boolean holds = single(w);
                        some |= holds;
                        all &= holds;
                    }
                }
                place = end;
                return c == 'S' ? some : all;
            }
            int figure = switch (c) {
                case 'n' -> v;
                case 'd' -> of(v, 0);
                case 't' -> of(v, 1);
                case 'c' -> of(v, 3);
                default -> of(v, 2);
            };
            char sign = text.charAt(place++);
            int begin = place;
            while (place < text.length() && Character.isDigit(text.charAt(place))) {
                place++;
            }
            int number = Integer.parseInt(text.substring(begin, place));
            return sign == '<' ? figure < number : sign == '=' ? figure == number : figure > number;
        }
    }

    long picked() {
        return bits(picked);
    }

    int spell() {
        List<String> parts = new ArrayList<>();
        for (Edge e : edges()) {
            int w = worth[e.u][e.v];
            parts.add("+" + e.u + "," + e.v + (w == 1 ? "" : "=" + w));
        }
        paper = String.join(";", parts);
        return paper.length();
    }

    int paper(int i) {
        return i < 0 || i >= paper.length() ? -1 : paper.charAt(i);
    }

    int back(int n) {
        if (n < 0 || n > 60) {
            return -2;
        }
        int count = 0;
        while (count < n && !past.isEmpty()) {
            Change last = past.remove(past.size() - 1);
            change(!last.came, last.u, last.v, last.worth, false);
            count++;
        }
        return count;
    }

    // ---- lists, the image

    int list(int list, int n) {
        if (list < 0 || list > 5) {
            return -1;
        }
        if (n > 60) {
            return -2;
        }
        if (n < 0) {
            return -14;
        }
        lists[list] = new long[n];
        return 1;
    }

    private boolean place(int list, long i) {
        return 0 <= i && i < lists[list].length;
    }

    int set(int list, int i, long v) {
        if (list < 0 || list > 5) {
            return -1;
        }
        if (lists[list] == null) {
            return -11;
        }
        if (!place(list, i)) {
            return -13;
        }
        lists[list][i] = list < 4 ? (int) v : v;
        return 1;
    }

    long get(int list, int i) {
        return list < 0 || list > 5 || lists[list] == null || !place(list, i) ? Long.MIN_VALUE : lists[list][i];
    }

    int move(int list, int i, int other, int j, int n) {
        if (list < 0 || list > 5 || other < 0 || other > 5) {
            return -1;
        }
        if (lists[list] == null || lists[other] == null) {
            return -11;
        }
        if (list < 4 != other < 4) {
            return -12;
        }
        if (n < 0 || i < 0 || j < 0 || (long) i + n > lists[list].length || (long) j + n > lists[other].length) {
            return -13;
        }
        long[] before = lists[list].clone();
        for (int k = 0; k < n; k++) {
            lists[other][j + k] = before[i + k];
        }
        return n;
    }

    private int figure(int v, int sort) {
        return of(v, new int[] {0, 1, 3, 4}[sort]);
    }

    int lay(int list, int i, int sort) {
        if (list < 0 || list > 5 || sort < 0 || sort > 3) {
            return -1;
        }
        if (lists[list] == null) {
            return -11;
        }
        for (int v = 0; v < N; v++) {
            if (i < 0 || !place(list, (long) i + v)) {
                return -13;
            }
            lists[list][i + v] = figure(v, sort);
        }
        return 40;
    }

    int judge(int list, int i, int sort) {
        if (list < 0 || list > 5 || sort < 0 || sort > 3) {
            return -1;
        }
        if (lists[list] == null) {
            return -11;
        }
        for (int v = 0; v < N; v++) {
            if (i < 0 || !place(list, (long) i + v)) {
                return 100 + v;
            }
            if (lists[list][i + v] != figure(v, sort)) {
                return v;
            }
        }
        return -5;
    }

    int image() {
        kept = new PlainNet();
        kept.take(this);
        return edgeCount();
    }

    int undo() {
        if (kept == null) {
            return -3;
        }
        take(kept);
        return edgeCount();
    }

    private void take(PlainNet other) {
        for (int u = 0; u < N; u++) {
            worth[u] = other.worth[u].clone();
        }
        heavy = other.heavy.clone();
        span = other.span;
        moves = other.moves;
        carried = other.carried;
        rebases = other.rebases;
        changes = other.changes;
        picked = other.picked.clone();
        past = new ArrayList<>(other.past);
    }
}
