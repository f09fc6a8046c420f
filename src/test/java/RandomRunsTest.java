/** Long runs of mixed calls, each answer compared with what PlainNet says. The same runs every time. */
public final class RandomRunsTest {
    private static final Checks checks = new Checks("RandomRunsTest");
    private static final int[] ODD = {-1, -2, 40, 41, 61, Integer.MAX_VALUE, Integer.MIN_VALUE, -1000000000};

    private long seed;
    private final RingCounts real = new RingCounts();
    private final PlainNet plain = new PlainNet();
    private final int[] vertices;
    private final int growth;
    private final boolean bigWorths;
    private final int run;
    private int call = 0;

    private RandomRunsTest(int run) {
        this.run = run;
        seed = 977L * run + 12345;
        vertices = new int[4 + below(run % 5 == 0 ? 20 : 7)];
        for (int i = 0; i < vertices.length; i++) {
            vertices[i] = i == 0 ? 39 : run % 3 == 0 ? i : (i * 7 + run) % 40;
        }
        growth = 30 + below(60);
        bigWorths = below(4) == 0;
    }

    /** So that there are TRIANGLES from the start, and LISTS to lay them into. */
    private void begin() {
        int density = 20 + below(80);
        for (int u : vertices) {
            for (int v : vertices) {
                if (u < v && chance(density)) {
                    add(u, v);
                }
            }
        }
        for (int list = 0; list < 6; list++) {
            if (chance(50)) {
                int n = 30 + below(31);
                due("list " + list + " " + n, plain.list(list, n), real.list(list, n));
            }
        }
    }

    private int below(int n) {
        seed = seed * 6364136223846793005L + 1442695040888963407L;
        return (int) ((seed >>> 33) % n);
    }

    private boolean chance(int percent) {
        return below(100) < percent;
    }

    private int odd() {
        return ODD[below(ODD.length)];
    }

    private int vertex() {
        return chance(3) ? odd() : chance(4) ? below(40) : vertices[below(vertices.length)];
    }

    private int small(int n) {
        return chance(5) ? odd() : below(n);
    }

    private int anyWorth() {
        if (bigWorths && chance(90)) {
            return (chance(80) ? 1 : -1) * (2000000 - below(300000));
        }
        return switch (below(8)) {
            case 0, 1, 2 -> 1;
            case 3 -> below(20) - 10;
            case 4 -> 2000000 - below(3);
            case 5 -> -2000000 + below(3);
            case 6 -> chance(10) ? 2000001 + below(2) : -below(1000);
            default -> below(4000001) - 2000000;
        };
    }

    private void due(String what, long want, long got) {
        checks.due("run " + run + ", call " + call + ": " + what, want, got);
        call++;
    }

    // ---- texts

    private String vertexText() {
        return numberText(chance(1) ? below(110) : chance(10) ? below(40) : vertices[below(vertices.length)]);
    }

    private String numberText(int v) {
        return v < 10 && chance(10) ? "0" + v : "" + v;
    }

    private String twoText() {
        int i = below(vertices.length);
        int j = chance(1) ? i : (i + 1 + below(vertices.length - 1)) % vertices.length;
        return numberText(vertices[i]) + "," + (chance(10) ? vertexText() : numberText(vertices[j]));
    }

    private String partText() {
        String two = twoText();
        return switch (below(12)) {
            case 0, 1 -> "-" + two;
            case 2, 3 -> "~" + two;
            case 4 -> chance(30) ? "*" + vertexText() : "+" + two;
            case 5, 6 -> "+" + two + "=" + anyWorth();
            case 7 -> chance(20) ? "+" + two + "=" + (chance(50) ? "-" : "") + "000" + below(20000) : "+" + two;
            default -> "+" + two;
        };
    }

    private String batchText() {
        StringBuilder text = new StringBuilder(partText());
        int parts = below(12);
        for (int i = 0; i < parts; i++) {
            text.append(';').append(partText());
        }
        return chance(20) ? spoilt(text, "0123456789,;=+-~* x") : text.toString();
    }

    private String testText() {
        int number = chance(80) ? below(6) : below(1000);
        return "" + "ndtch".charAt(below(5)) + "<=>".charAt(below(3)) + number;
    }

    private String singleText(int depth) {
        if (depth == 0 || chance(30)) {
            return testText();
        }
        return switch (below(5)) {
            case 0 -> "!" + singleText(depth - 1);
            case 1 -> "S" + singleText(depth - 1);
            case 2 -> "A" + singleText(depth - 1);
            default -> "(" + eitherText(depth - 1) + ")";
        };
    }

    private String eitherText(int depth) {
        StringBuilder text = new StringBuilder(singleText(depth));
        int more = below(3);
        for (int i = 0; i < more; i++) {
            text.append("|&".charAt(below(2))).append(singleText(depth));
        }
        return text.toString();
    }

    private String pickText() {
        String text = eitherText(chance(10) ? 5 : 4);
        return chance(25) ? spoilt(new StringBuilder(text), "ndtch<=>0123456789()!SA|& x") : text;
    }

    private String spoilt(StringBuilder text, String letters) {
        int at = below(text.length());
        char letter = letters.charAt(below(letters.length()));
        switch (below(4)) {
            case 0:
                text.setLength(at);
                break;
            case 1:
                text.insert(at, letter);
                break;
            case 2:
                text.deleteCharAt(at);
                break;
            default:
                text.setCharAt(at, letter);
                break;
        }
        return text.toString();
    }

    private void type(String text) {
        for (int i = 0; i < text.length(); i++) {
            due("feed " + text.charAt(i), plain.feed(text.charAt(i)), real.feed(text.charAt(i)));
        }
    }

    private void doBatch() {
        String text = batchText();
        type(text);
        due("batch " + text, plain.batch(), real.batch());
    }

    private void doPick() {
        String text = pickText();
        type(text);
        due("pick " + text, plain.pick(), real.pick());
        due("picked", plain.picked(), real.picked());
    }

    // ---- calls that change something

    private void changeSomething() {
        int u = vertex();
        int v = vertex();
        int x = vertex();
        int y = vertex();
        switch (below(16)) {
            case 0, 1, 2, 3, 4, 5 -> addOrCut(u, v);
            case 6 -> {
                swap(u, v, x, y);
                for (int i = 0; i < 4; i++) {
                    swap(u, neighbour(u), x, neighbour(x));
                }
            }
            case 7 -> doBatch();
            case 8 -> doPick();
            case 9 -> {
                int n = chance(80) ? below(5) : small(62);
                due("back " + n, plain.back(n), real.back(n));
            }
            case 10 -> {
                if (chance(40)) {
                    due("image", plain.image(), real.image());
                } else if (chance(15)) {
                    due("undo", plain.undo(), real.undo());
                }
            }
            case 11 -> checkPaper();
            case 12 -> {
                if (chance(30)) {
                    due("clear", plain.clear(), real.clear());
                }
                int letter = small(129);
                due("feed " + letter, plain.feed(letter), real.feed(letter));
                due("clear", plain.clear(), real.clear());
            }
            default -> changeList();
        }
    }

    private void addOrCut(int u, int v) {
        if (chance(growth)) {
            add(u, v);
        } else {
            due("cut " + u + " " + v, plain.cut(u, v), real.cut(u, v));
        }
    }

    private void add(int u, int v) {
        int worth = anyWorth();
        due("add " + u + " " + v + " " + worth, plain.add(u, v, worth), real.add(u, v, worth));
    }

    private void swap(int u, int v, int x, int y) {
        due("swap " + u + " " + v + " " + x + " " + y, plain.swap(u, v, x, y), real.swap(u, v, x, y));
    }

    /** Some VERTEX NEAR another one, if one is found soon. */
    private int neighbour(int u) {
        int v = vertex();
        for (int i = 0; i < 20 && plain.two(u, v, 3) != 1; i++) {
            v = vertex();
        }
        return v;
    }

    private void checkPaper() {
        due("spell", plain.spell(), real.spell());
        int length = plain.paper.length();
        for (int i = -1; i <= length; i++) {
            due("paper " + i, plain.paper(i), real.paper(i));
        }
        int i = odd();
        due("paper " + i, plain.paper(i), real.paper(i));
    }

    private void changeList() {
        int list = chance(4) ? odd() : below(6);
        int i = chance(60) ? below(8) : small(61);
        switch (below(6)) {
            case 0 -> {
                int n = chance(50) ? 40 + below(21) : small(61);
                due("list " + list + " " + n, plain.list(list, n), real.list(list, n));
            }
            case 1 -> {
                long value = chance(50) ? below(10) : (long) below(1 << 30) * below(1 << 30) * 3 - (1L << 40);
                due("set " + list + " " + i + " " + value, plain.set(list, i, value), real.set(list, i, value));
            }
            case 2 -> {
                int other = chance(40) ? list : chance(4) ? odd() : below(6);
                int j = chance(60) ? below(8) : small(61);
                int n = chance(60) ? below(8) : small(61);
                due("move " + list + " " + i + " " + other + " " + j + " " + n,
                    plain.move(list, i, other, j, n), real.move(list, i, other, j, n));
            }
            case 3 -> {
                int sort = small(5);
                due("judge " + list + " " + i + " " + sort, plain.judge(list, i, sort), real.judge(list, i, sort));
            }
            default -> {
                int sort = small(5);
                due("lay " + list + " " + i + " " + sort, plain.lay(list, i, sort), real.lay(list, i, sort));
                if (chance(50)) {
                    due("judge " + list + " " + i + " " + sort, plain.judge(list, i, sort), real.judge(list, i, sort));
                }
            }
        }
    }

    // ---- calls that only ask

    private void askSomething() {
        int u = vertex();
        int v = vertex();
        int k = chance(80) ? below(7) : small(42);
        int what = small(7);
        due("of " + u + " " + what, plain.of(u, what), real.of(u, what));
        due("two " + u + " " + v + " " + what, plain.two(u, v, what), real.two(u, v, what));
        due("edge " + u + " " + v + " " + what, plain.edge(u, v, what), real.edge(u, v, what));
        due("worth " + u + " " + v, plain.worth(u, v), real.worth(u, v));
        due("near " + u, plain.near(u), real.near(u));
        int part = small(3);
        int whose = chance(30) ? -1 : u;
        due("closed " + whose + " " + part, plain.closed(whose, part), real.closed(whose, part));
        due("truss " + k, plain.truss(k), real.truss(k));
        due("pieces " + k, plain.pieces(k), real.pieces(k));
        due("hood " + u + " " + v + " " + k, plain.hood(u, v, k), real.hood(u, v, k));
        due("hoods " + k, plain.hoods(k), real.hoods(k));
        due("core " + k, plain.core(k), real.core(k));
        int i = small(plain.edgeCount() + 2);
        due("peeled " + i + " " + part, plain.peeled(i, part), real.peeled(i, part));
    }

    private void askWhole() {
        for (int what = -1; what < 15; what++) {
            due("told " + what, plain.told(what), real.told(what));
        }
        due("value", plain.value(), real.value());
        for (int what = -1; what < 4; what++) {
            due("broken " + what, plain.broken(what), real.broken(what));
        }
        if (plain.triangles().size() <= 40) {
            due("fewest", plain.fewest(), real.fewest());
        }
        due("picked", plain.picked(), real.picked());
        for (int list = 0; list < 6; list++) {
            for (int i = -1; i < 61; i += 1 + below(9)) {
                due("get " + list + " " + i, plain.get(list, i), real.get(list, i));
            }
        }
    }

    private void askEach() {
        for (int u : vertices) {
            for (int what = 0; what < 6; what++) {
                due("of " + u + " " + what, plain.of(u, what), real.of(u, what));
            }
        }
        for (PlainNet.Edge e : plain.edges()) {
            for (int what = 0; what < 5; what++) {
                due("edge " + e + " " + what, plain.edge(e.u(), e.v(), what), real.edge(e.u(), e.v(), what));
            }
        }
    }

    private void go() {
        begin();
        for (int step = 0; step < 120; step++) {
            changeSomething();
            if (step % 6 == 0) {
                askSomething();
            }
            if (step % 17 == 0) {
                askWhole();
            }
        }
        askWhole();
        if (run % 4 == 0) {
            askEach();
        }
    }

    public static void main(String[] args) {
        int runs = args.length > 0 ? Integer.parseInt(args[0]) : 150;
        for (int run = 1; run <= runs; run++) {
            new RandomRunsTest(run).go();
        }
        checks.end();
    }
}
