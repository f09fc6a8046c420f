/** Each promise of the document with ordinary numbers, the edges that it names, and wrong numbers. */
public final class PromisesTest {
    private static final Checks checks = new Checks("PromisesTest");
    private static final long NO = Long.MIN_VALUE;
    private static final long OVER = Long.MIN_VALUE + 1;
    private static final int MAX = Integer.MAX_VALUE;
    private static final int MIN = Integer.MIN_VALUE;

    private static void due(String call, long want, long got) {
        checks.due(call, want, got);
    }

    private static RingCounts net(String batch) {
        return Checks.net(batch);
    }

    private static RingCounts whole(int n) {
        return Checks.whole(n);
    }

    /** Two TRIANGLES on the EDGE of 0 and 1, a tail from 3 to 4, another piece of 38 and 39. */
    private static RingCounts kite() {
        return net("+0,1=2;+0,2=3;+1,2=5;+0,3=7;+1,3=-11;+3,4=13;+38,39=0");
    }

    private static void dueBatch(String text, long want) {
        due("batch " + text, want, Checks.batch(new RingCounts(), text));
    }

    private static void duePick(RingCounts net, String text, long... vertices) {
        long bits = 0;
        for (long v : vertices) {
            bits |= 1L << v;
        }
        due("pick " + text, vertices.length, Checks.pick(net, text));
        due("picked by " + text, bits, net.picked());
    }

    private static void dueBadPick(RingCounts net, String text, int fault) {
        long before = net.picked();
        due("pick " + text, -100 - fault, Checks.pick(net, text));
        due("picked stays behind " + text, before, net.picked());
    }

    // 1
    private static void aNewObject() {
        RingCounts net = new RingCounts();
        long[] told = {0, 0, 0, 1, 1, 0, 0, 0, 0, 0, 0, 0, 0, 0, NO};
        for (int what = 0; what < told.length; what++) {
            due("new told " + what, told[what], net.told(what));
        }
        due("new picked", 0, net.picked());
        due("new paper", -1, net.paper(0));
        due("new clear", 0, net.clear());
        due("new image undone", -3, net.undo());
        for (int u = 0; u < 40; u++) {
            due("new near", 0, net.near(u));
        }
        for (int list = 0; list < 6; list++) {
            due("new list", -11, net.set(list, 0, 0));
        }
        due("NONE", -1, RingCounts.NONE);
        due("BAD", -2, RingCounts.BAD);
        due("STATE", -3, RingCounts.STATE);
        due("FULL", -4, RingCounts.FULL);
        due("NO", NO, RingCounts.NO);
        due("OVER", OVER, RingCounts.OVER);
    }

    // 2, 3, 4
    private static void edgesComeAndGo() {
        RingCounts net = new RingCounts();
        due("add", 0, net.add(39, 0, -2000000));
        due("add", 0, net.add(1, 39, 2000000));
        due("add closes a triangle", 1, net.add(1, 0, 0));
        due("add there", -3, net.add(0, 1, 7));
        due("add there, told otherwise", -3, net.add(1, 0, 7));
        due("add there with a bad worth", -2, net.add(0, 1, 2000001));
        due("add bad", -2, net.add(0, 2, -2000001));
        due("add bad", -2, net.add(0, 2, MIN));
        due("add bad", -2, net.add(0, 2, MAX));
        int[][] none = {{0, 0}, {39, 39}, {-1, 0}, {0, -1}, {40, 0}, {0, 40}, {MAX, 0}, {0, MIN}, {MIN, MAX}};
        for (int[] two : none) {
            due("add none", -1, net.add(two[0], two[1], 1));
            due("add none ahead of bad", -1, net.add(two[0], two[1], MAX));
            due("cut none", -1, net.cut(two[0], two[1]));
            due("worth none", NO, net.worth(two[0], two[1]));
        }
        due("worth", -2000000, net.worth(0, 39));
        due("worth", -2000000, net.worth(39, 0));
        due("worth", 2000000, net.worth(39, 1));
        due("worth 0", 0, net.worth(0, 1));
        due("worth of none", NO, net.worth(0, 2));
        due("wrong adds made no change", 3, net.told(9));
        due("cut", 1, net.cut(39, 1));
        due("cut", 0, net.cut(0, 1));
        due("cut none there", -3, net.cut(0, 1));
        due("cut none there", -3, net.cut(4, 5));
        due("worth of a gone one", NO, net.worth(0, 1));
        due("add anew", 0, net.add(0, 1, 9));
        due("its worth anew", 9, net.worth(1, 0));
        RingCounts fan = net("+0,2;+1,2;+0,3;+1,3;+0,4;+1,4");
        due("add with three", 3, fan.add(0, 1, 1));
        due("cut with three", 3, fan.cut(0, 1));
    }

    // 5
    private static void ofAVertex() {
        RingCounts net = kite();
        int[][] due = {
            {3, 2, 2, 2}, {3, 2, 2, 2}, {2, 1, 1, 2}, {3, 1, 1, 2}, {1, 0, 0, 1}};
        for (int u = 0; u < due.length; u++) {
            due("degree of " + u, due[u][0], net.of(u, 0));
            due("triangles of " + u, due[u][1], net.of(u, 1));
            due("core of " + u, due[u][3], net.of(u, 3));
        }
        for (int u = 0; u < 4; u++) {
            due("ring 0 2 1 3 has " + u, 1, net.of(u, 4));
        }
        due("rings of 4", 0, net.of(4, 4));
        due("core of 5", 0, net.of(5, 3));
        due("core of 39", 1, net.of(39, 3));
        due("fours of 0", 0, net.of(0, 5));
        RingCounts five = whole(5);
        due("fours of one of five", 4, five.of(2, 5));
        due("rings of one of five", 12, five.of(2, 4));
        due("triangles of one of five", 6, five.of(2, 1));
        due("core of one of five", 4, five.of(2, 3));
        due("fours of another", 0, five.of(5, 5));
        RingCounts star = net("+7,1;+7,2;+7,3;+7,4");
        due("heavy", 1, star.of(7, 2));
        due("light", 0, star.of(1, 2));
        for (int what = -1; what < 7; what++) {
            due("of none", -1, net.of(-1, what));
            due("of none", -1, net.of(40, what));
        }
        due("of what", -1, net.of(0, -1));
        due("of what", -1, net.of(0, 6));
        due("of what", -1, net.of(0, MIN));
        due("of far", -1, net.of(MAX, 0));
    }

    // 6
    private static void ofTwo() {
        RingCounts net = kite();
        due("shared 0 1", 2, net.two(0, 1, 0));
        due("shared 2 3", 2, net.two(3, 2, 0));
        due("shared 2 4", 0, net.two(2, 4, 0));
        due("ways 0 1", 0, net.two(0, 1, 2));
        due("ways 0 2", 1, net.two(0, 2, 2));
        due("ways 2 4", 2, net.two(2, 4, 2));
        due("ways in a whole four", 2, whole(4).two(0, 1, 2));
        due("ways in a whole six", 12, whole(6).two(0, 1, 2));
        due("ways 2 3 over 0 1 and over 1 0", 2, net.two(2, 3, 2));
        due("joined", 1, net.two(4, 3, 3));
        due("not joined", 0, net.two(2, 3, 3));
        due("far 0 1", 1, net.two(0, 1, 4));
        due("far 2 3", 2, net.two(2, 3, 4));
        due("far 2 4", 3, net.two(4, 2, 4));
        due("far 0 39", -5, net.two(0, 39, 4));
        due("far 0 9", -5, net.two(9, 0, 4));
        RingCounts path = new RingCounts();
        for (int v = 0; v < 39; v++) {
            path.add(v, v + 1, 1);
        }
        due("the farthest", 39, path.two(0, 39, 4));
        due("the farthest", 39, path.two(39, 0, 4));
        due("a path of all is one piece", 1, path.pieces(2));
        due("and each edge a hood", 39, path.hoods(2));
        due("and its core is 1", 1, path.of(20, 3));
        RingCounts star = net("+7,1;+7,2;+7,3;+7,4;+1,9;+2,9");
        due("shared over a heavy and a light one", 2, star.two(1, 2, 0));
        due("wedges over light ones alone", 1, star.two(1, 2, 1));
        due("wedges over a heavy one", 0, star.two(3, 4, 1));
        for (int what = -1; what < 6; what++) {
            due("two of one", -1, net.two(3, 3, what));
            due("two none", -1, net.two(-1, 3, what));
            due("two none", -1, net.two(3, 40, what));
        }
        due("two what", -1, net.two(0, 1, 5));
        due("two what", -1, net.two(0, 1, -1));
        due("two what", -1, net.two(0, 1, MAX));
    }

    // 7
    private static void ofAnEdge() {
        RingCounts net = kite();
        due("support", 2, net.edge(0, 1, 0));
        due("support", 1, net.edge(2, 1, 0));
        due("support", 0, net.edge(3, 4, 0));
        due("truss", 3, net.edge(0, 1, 1));
        due("truss", 2, net.edge(4, 3, 1));
        due("rings of the middle edge", 0, net.edge(0, 1, 3));
        due("rings of an outer edge", 1, net.edge(0, 2, 3));
        // 3-4 and 38-39 have none; 0-2 then goes, 0-1 next (1 left with 3), 0-3, 1-2, 1-3 have none any more.
        int[][] turns = {{3, 4, 0}, {38, 39, 1}, {0, 2, 2}, {1, 2, 3}, {0, 1, 4}, {0, 3, 5}, {1, 3, 6}};
        for (int[] turn : turns) {
            due("turn of " + turn[0] + "-" + turn[1], turn[2], net.edge(turn[0], turn[1], 2));
        }
        RingCounts five = whole(5);
        due("truss of five", 5, five.edge(0, 4, 1));
        due("fours of an edge of five", 3, five.edge(0, 4, 4));
        due("rings of an edge of five", 6, five.edge(0, 4, 3));
        due("first turn of five", 0, five.edge(1, 0, 2));
        due("edge none", -1, net.edge(0, 0, 0));
        due("edge none", -1, net.edge(0, 40, 0));
        due("edge none", -1, net.edge(-1, 0, 0));
        due("edge what", -1, net.edge(0, 1, 5));
        due("edge what", -1, net.edge(0, 1, -1));
        due("edge what ahead of state", -1, net.edge(2, 3, 5));
        for (int what = 0; what < 5; what++) {
            due("edge that is none", -3, net.edge(2, 3, what));
        }
    }

    // 8
    private static void swapped() {
        RingCounts net = net("+0,1=5;+2,3=6;+0,2;+1,4;+4,2=9");
        due("swap none", -1, net.swap(0, 1, 2, 2));
        due("swap none", -1, net.swap(0, 1, 1, 3));
        due("swap none", -1, net.swap(0, 1, 2, 0));
        due("swap none", -1, net.swap(0, 1, 0, 3));
        due("swap none", -1, net.swap(0, 1, 2, 1));
        due("swap none", -1, net.swap(0, 0, 2, 3));
        due("swap none", -1, net.swap(0, 1, 2, 40));
        due("swap none", -1, net.swap(-1, 1, 2, 3));
        due("swap: no first", -3, net.swap(0, 3, 2, 4));
        due("swap: no second", -3, net.swap(0, 1, 3, 4));
        due("swap: first is there", -3, net.swap(0, 1, 3, 2));
        due("swap: second is there", -3, net.swap(1, 0, 2, 3));
        due("nothing changed", 5, net.told(9));
        // 0-1 and 2-3 go; 0-3 comes with 5, 2-1 with 6: then 1-2, 2-4, 1-4 is a TRIANGLE.
        due("swap", 1, net.swap(0, 1, 2, 3));
        due("first worth", 5, net.worth(0, 3));
        due("second worth", 6, net.worth(1, 2));
        due("gone", NO, net.worth(0, 1));
        due("gone", NO, net.worth(2, 3));
        due("four changes", 9, net.told(9));
        due("as many edges", 5, net.told(0));
        due("and back", 4, net.back(4));
        due("back worth", 5, net.worth(0, 1));
        due("back worth", 6, net.worth(2, 3));
        due("changes", 13, net.told(9));
    }

    // 9
    private static void nearAVertex() {
        RingCounts net = kite();
        due("near 0", Checks.bits(1, 2, 3), net.near(0));
        due("near 3", Checks.bits(0, 1, 4), net.near(3));
        due("near 38", 1L << 39, net.near(38));
        due("near 5", 0, net.near(5));
        due("near -1", NO, net.near(-1));
        due("near 40", NO, net.near(40));
        due("near", NO, net.near(MAX));
        due("near", NO, net.near(MIN));
    }

    // 10
    private static void toldOfTheNet() {
        RingCounts net = kite();
        net.spell();
        // SPAN 1, 2, 4, 8 doubled at 1, 2, 4: three REBASES; BOUND 3, heavy at the fourth: 0 with 3.
        long[] told = {7, 2, 1, 8, 3, 1, 0, 0, 3, 7, 7, 3 + 3 + 1 + 3, 53, 0, NO};
        for (int what = 0; what < told.length; what++) {
            due("kite told " + what, told[what], net.told(what));
        }
        due("told", NO, net.told(-1));
        due("told", NO, net.told(MIN));
        RingCounts six = whole(6);
        due("edges of six", 15, six.told(0));
        due("triangles of six", 20, six.told(1));
        due("rings of six", 45, six.told(2));
        due("fours of six", 15, six.told(13));
        due("twos of six", 60, six.told(11));
        due("span of six", 16, six.told(3));
        due("bound of six", 4, six.told(4));
    }

    private static void heavyAndLight() {
        // SPAN 8 and BOUND 3 from the fourth EDGE on: 0 is HEAVY then.
        RingCounts net = net("+0,1;+0,2;+0,3;+0,4");
        due("heavy by rebasing", 1, net.told(5));
        net.add(1, 2, 1);
        net.add(1, 3, 1);
        due("a degree of 3 leaves 1 light", 1, net.told(5));
        due("no moves yet", 0, net.told(6));
        net.cut(0, 3);
        net.cut(0, 4);
        due("a degree of 2 leaves 0 heavy", 1, net.told(5));
        net.cut(0, 2);
        due("a degree of 1 makes 0 light", 0, net.told(5));
        due("one move", 1, net.told(6));
        due("carried its degree", 1, net.told(7));
        net.add(1, 5, 1);
        due("1 has a degree of 4", 4, net.of(1, 0));
        net.add(1, 6, 1);
        due("with 5 it is heavy", 2, net.told(5));
        due("two moves", 2, net.told(6));
        due("carried 5 more", 6, net.told(7));
        due("rebases by coming alone", 3, net.told(8));
    }

    private static void bothEndsMove() {
        RingCounts net = net("+0,1;+0,2;+0,3;+9,1;+9,2;+9,3;+0,4;+9,4;+20,21;+22,23");
        due("span 16", 16, net.told(3));
        due("0 and 9 heavy by rebasing at the eighth", Checks.bits(0, 9), net.told(5));
        RingCounts two = net("+0,1;+2,3;+4,5;+6,7;+20,1;+20,2;+20,3;+21,1");
        due("span 16 of eight", 16, two.told(3));
        Checks.batch(two, "+20,4;+20,5;+21,3;+21,4;+21,5");
        due("degree of 20", 5, two.of(20, 0));
        due("degree of 21", 4, two.of(21, 0));
        two.add(21, 6, 1);
        due("both stay light below 6", 0, two.told(5));
        two.add(20, 21, 1);
        due("both become heavy with 6", Checks.bits(20, 21), two.told(5));
        due("two moves", 2, two.told(6));
        due("carried 12", 12, two.told(7));
    }

    private static void heavyStaysByHalf() {
        // SPAN 16 and BOUND 4: a degree of 2 is just no less than half of it.
        RingCounts net = net("+9,1;+9,2;+9,3;+9,4;+20,21;+22,23;+24,25;+26,27");
        due("heavy by rebasing", 1L << 9, net.told(5));
        net.cut(1, 9);
        net.cut(2, 9);
        due("heavy with 2 of 4", 1L << 9, net.told(5));
        due("no move", 0, net.told(6));
        net.cut(3, 9);
        due("light with 1 of 4, as the greater one", 0, net.told(5));
        due("one move", 1, net.told(6));
    }

    private static void spanShrinks() {
        RingCounts net = net("+0,1;+0,2;+0,3;+0,4;+0,5;+0,6;+0,7;+0,8");
        due("span", 16, net.told(3));
        due("rebases", 4, net.told(8));
        Checks.batch(net, "-0,1;-0,2;-0,3;-0,4");
        due("span with a fourth left", 16, net.told(3));
        due("still heavy", 1, net.told(5));
        net.cut(0, 5);
        due("span with three left", 7, net.told(3));
        due("bound of 7", 3, net.told(4));
        due("rebases", 5, net.told(8));
        due("heavy", 1, net.told(5));
        net.cut(0, 6);
        net.cut(0, 7);
        due("a fourth of 7 is 1", 7, net.told(3));
        net.cut(0, 8);
        due("span of none", 2, net.told(3));
        due("bound of 2", 2, net.told(4));
        net.add(0, 1, 1);
        due("one of two", 2, net.told(3));
        net.add(0, 2, 1);
        due("two of two", 4, net.told(3));
        net.cut(0, 1);
        due("one of four", 4, net.told(3));
        net.cut(0, 2);
        due("none of four: 1", 1, net.told(3));
        due("bound of 1", 1, net.told(4));
        due("changes", 20, net.told(9));
        due("rebases in all", 8, net.told(8));
    }

    /** Each of the calls that need TRUSSES is the first one to be asked behind a CHANGE. */
    private static void eachPeelsAnew() {
        due("truss first", 3, kite().edge(0, 1, 1));
        due("turn first", 6, kite().edge(1, 3, 2));
        due("truss first", 5, kite().truss(3));
        due("pieces first", 2, kite().pieces(2));
        due("hoods first", 3, kite().hoods(2));
        due("hood first", 5, kite().hood(0, 1, 2));
        due("peeled first", 38, kite().peeled(1, 0));
        RingCounts net = kite();
        due("truss 2", 7, net.truss(2));
        net.cut(0, 1);
        due("truss 2 behind a change", 6, net.truss(2));
        due("truss 3 behind a change", 0, net.truss(3));
        due("core ahead", 2, net.of(0, 3));
        net.cut(0, 2);
        due("core behind a change", 1, net.of(0, 3));
        net.cut(0, 3);
        due("core behind another change", 0, net.of(0, 3));
    }

    // 11, 12, 14
    private static void trusses() {
        // Four VERTICES whole, a TRIANGLE on 3, a tail, and another TRIANGLE far away.
        RingCounts net = net("+0,1;+0,2;+0,3;+1,2;+1,3;+2,3;+3,4;+3,5;+4,5;+5,6;+10,11;+11,12;+10,12");
        int[] truss = {13, 13, 13, 12, 6, 0};
        int[] pieces = {2, 2, 2, 2, 1, 0};
        int[] hoods = {4, 4, 4, 3, 1, 0};
        for (int k = 0; k < truss.length; k++) {
            due("truss " + k, truss[k], net.truss(k));
            due("pieces " + k, pieces[k], net.pieces(k));
            due("hoods " + k, hoods[k], net.hoods(k));
        }
        due("truss", 13, net.truss(MIN));
        due("truss", 0, net.truss(MAX));
        due("pieces", 2, net.pieces(MIN));
        due("pieces", 0, net.pieces(MAX));
        due("hoods", 4, net.hoods(MIN));
        due("hoods", 0, net.hoods(MAX));
        RingCounts none = new RingCounts();
        due("truss of none", 0, none.truss(0));
        due("pieces of none", 0, none.pieces(0));
        due("hoods of none", 0, none.hoods(0));
    }

    // 13
    private static void hood() {
        RingCounts net = net("+0,1;+0,2;+0,3;+1,2;+1,3;+2,3;+3,4;+3,5;+4,5;+5,6;+2,4");
        // 2-3-4 ties the whole four and the TRIANGLE 3-4-5 into one HOOD by 3.
        due("hood by 3", 10, net.hood(0, 1, 3));
        due("hood by 3", 10, net.hood(5, 4, 3));
        due("hood by 4", 6, net.hood(2, 3, 4));
        due("hood by 4 below", 0, net.hood(2, 4, 4));
        due("hood of a tail", 1, net.hood(5, 6, 2));
        due("hood of a tail", 1, net.hood(6, 5, -7));
        due("hood of a tail by 3", 0, net.hood(5, 6, 3));
        due("hood by 2", 10, net.hood(4, 5, 2));
        due("hood by little", 10, net.hood(4, 5, MIN));
        due("hood by much", 0, net.hood(4, 5, MAX));
        due("hood none", -1, net.hood(4, 4, 3));
        due("hood none", -1, net.hood(4, 40, 3));
        due("hood none", -1, net.hood(-1, 4, 3));
        due("hood of no edge", -3, net.hood(0, 5, 3));
        due("hood of no edge", -3, net.hood(0, 5, MAX));
    }

    // 15
    private static void core() {
        RingCounts net = kite();
        due("core 0", (1L << 40) - 1, net.core(0));
        due("core below", (1L << 40) - 1, net.core(MIN));
        due("core 1", Checks.bits(0, 1, 2, 3, 4, 38, 39), net.core(1));
        due("core 2", Checks.bits(0, 1, 2, 3), net.core(2));
        due("core 3", 0, net.core(3));
        due("core", 0, net.core(MAX));
        due("core of a cut path", 0, net("+0,1;+1,2;+2,3;+3,4;+4,5").core(2));
        due("core of five", 31, whole(5).core(4));
        due("core of five", 0, whole(5).core(5));
    }

    // 16
    private static void peeled() {
        RingCounts net = kite();
        int[][] order = {{3, 4, 2}, {38, 39, 2}, {0, 2, 3}, {1, 2, 3}, {0, 1, 3}, {0, 3, 3}, {1, 3, 3}};
        for (int i = 0; i < order.length; i++) {
            for (int what = 0; what < 3; what++) {
                due("peeled " + i + " " + what, order[i][what], net.peeled(i, what));
            }
        }
        due("peeled", -1, net.peeled(7, 0));
        due("peeled", -1, net.peeled(-1, 0));
        due("peeled", -1, net.peeled(0, 3));
        due("peeled", -1, net.peeled(0, -1));
        due("peeled", -1, net.peeled(MAX, 0));
        due("peeled of none", -1, new RingCounts().peeled(0, 0));
        net.cut(0, 1);
        due("peeled anew", 0, net.peeled(0, 0));
        due("peeled anew", 2, net.peeled(0, 1));
        due("peeled anew", 2, net.peeled(0, 2));
        due("peeled anew", -1, net.peeled(6, 0));
    }

    // 17
    private static void closed() {
        RingCounts net = kite();
        due("closed 0", 2, net.closed(0, 0));
        due("closed 0", 3, net.closed(0, 1));
        due("closed 2", 1, net.closed(2, 0));
        due("closed 2", 1, net.closed(2, 1));
        due("closed 3", 1, net.closed(3, 0));
        due("closed 3", 3, net.closed(3, 1));
        due("closed 4", NO, net.closed(4, 0));
        due("closed 4", NO, net.closed(4, 1));
        due("closed net", 3, net.closed(-1, 0));
        due("closed net", 5, net.closed(-1, 1));
        due("closed what", NO, net.closed(0, 2));
        due("closed what", NO, net.closed(0, -1));
        due("closed whose", NO, net.closed(-2, 0));
        due("closed whose", NO, net.closed(40, 0));
        due("closed whose", NO, net.closed(MIN, 0));
        RingCounts path = net("+0,1;+1,2;+2,3");
        due("closed of an open one", 0, path.closed(1, 0));
        due("closed of an open one", 1, path.closed(1, 1));
        due("closed of an open net", 0, path.closed(-1, 0));
        due("closed of an open net", 1, path.closed(-1, 1));
        due("closed of nothing", NO, new RingCounts().closed(-1, 0));
        due("closed of nothing", NO, net("+0,1;+2,3").closed(-1, 1));
    }

    // 18
    private static void value() {
        due("value", 2 * 3 * 5 - 2 * 7 * 11, kite().value());
        RingCounts net = net("+0,1=2000000;+1,2=2000000;+0,2=2000000");
        due("value of the most", 8000000000000000000L, net.value());
        Checks.batch(net, "+0,3=1000000;+1,3=1000000");
        due("value that is over by 2 of 10", OVER, net.value());
        Checks.batch(net, "-0,3;+0,3=600000");
        due("value just below", 9200000000000000000L, net.value());
        Checks.batch(net, "-0,3;+0,3=-2000000;-1,3;+1,3=2000000");
        due("value that comes back to 0", 0, net.value());
        RingCounts late = net("+0,1=2000000;+0,2=2000000;+1,2=2000000;+3,4=2000000;+3,5=2000000;+4,5=2000000"
            + ";+6,7=-2000000;+6,8=2000000;+7,8=2000000");
        due("value of a sum that was over on the way", OVER, late.value());
        RingCounts soon = net("+0,1=2000000;+0,2=2000000;+1,2=2000000;+3,4=-2000000;+3,5=2000000;+4,5=2000000"
            + ";+6,7=2000000;+6,8=2000000;+7,8=2000000");
        due("value of the same in another order", 8000000000000000000L, soon.value());
        RingCounts below = net("+0,1=-2000000;+0,2=2000000;+1,2=2000000;+3,4=-2000000;+3,5=2000000;+4,5=2000000");
        due("value that is over below", OVER, below.value());
        due("value of none", 0, new RingCounts().value());
        due("value of a path", 0, net("+0,1=5;+1,2=5").value());
    }

    // 19
    private static void broken() {
        RingCounts net = kite();
        String before = Checks.stateOf(net);
        due("broken", 1, net.broken(0));
        due("broken", 0, net.broken(1));
        due("broken", 1, net.broken(2));
        checks.dueText("broken changes nothing", before, Checks.stateOf(net));
        due("broken what", -1, net.broken(3));
        due("broken what", -1, net.broken(-1));
        due("broken what", -1, net.broken(MAX));
        RingCounts open = net("+0,1;+1,2");
        due("broken of none", 0, open.broken(0));
        due("broken of none", -5, open.broken(1));
        due("broken of none", -5, open.broken(2));
        due("broken of five", 4, whole(5).broken(0));
        RingCounts later = net("+5,6;+6,7;+5,7;+8,9;+9,10;+8,10;+8,11;+9,11");
        due("broken: the most supported first", 8, later.broken(1));
        due("broken: the most supported first", 9, later.broken(2));
        due("broken", 2, later.broken(0));
    }

    // 20
    private static void fewest() {
        due("fewest of none", 0, new RingCounts().fewest());
        due("fewest of a path", 0, net("+0,1;+1,2").fewest());
        due("fewest", 1, kite().fewest());
        due("fewest of four", 2, whole(4).fewest());
        due("fewest of five", 4, whole(5).fewest());
        due("fewest of six is more than 4", -5, whole(6).fewest());
        RingCounts net = new RingCounts();
        for (int i = 0; i < 5; i++) {
            due("fewest so far", i, net.fewest());
            Checks.batch(net, "+" + 3 * i + "," + (3 * i + 1) + ";+" + (3 * i + 1) + "," + (3 * i + 2)
                + ";+" + 3 * i + "," + (3 * i + 2));
        }
        due("fewest of five apart", -5, net.fewest());
        due("fewest changes nothing", 15, net.told(0));
        net.cut(0, 1);
        due("fewest of four apart", 4, net.fewest());
    }

    // 21, 22
    private static void tape() {
        RingCounts net = new RingCounts();
        due("feed", -2, net.feed(0));
        due("feed", -2, net.feed(128));
        due("feed", -2, net.feed(-1));
        due("feed", -2, net.feed(MAX));
        due("feed", 1, net.feed(1));
        due("feed", 2, net.feed(127));
        due("clear", 2, net.clear());
        due("clear", 0, net.clear());
        for (int i = 1; i <= 160; i++) {
            due("feed", i, net.feed('+'));
        }
        due("feed full", -4, net.feed('+'));
        due("feed bad ahead of full", -2, net.feed(0));
        due("feed full", -4, net.feed(1));
        due("clear all", 160, net.clear());
        due("feed again", 1, net.feed('*'));
        due("image", 0, net.image());
        due("undo", 0, net.undo());
        due("the tape is none of the image", 1, net.clear());
    }

    // 23
    private static void batchDoes() {
        RingCounts net = new RingCounts();
        due("batch", 2, Checks.batch(net, "+0,1;+00,02=-0000005"));
        due("worth 1", 1, net.worth(0, 1));
        due("worth -5", -5, net.worth(0, 2));
        due("the tape is empty", 0, net.clear());
        due("there is one", 0, Checks.batch(net, "+1,0=7"));
        due("worth stays", 1, net.worth(0, 1));
        due("there is none", 0, Checks.batch(net, "-1,2"));
        due("goes", 1, Checks.batch(net, "-1,0"));
        due("~ comes", 1, Checks.batch(net, "~3,4"));
        due("~ with worth 1", 1, net.worth(3, 4));
        due("~ goes", 1, Checks.batch(net, "~0,2"));
        due("~ twice", 2, Checks.batch(net, "~0,2;~0,2"));
        due("many", 5, Checks.batch(net, "+5,4=2;+5,6=3;+5,3=4;+5,39=2000000;+5,0=-2000000"));
        due("* of all", 5, Checks.batch(net, "*5"));
        due("* of none", 0, Checks.batch(net, "*05"));
        due("* the lesser first", 3, net.back(3));
        due("* the lesser first: 6 goes ahead of 39", 3, net.worth(5, 6));
        due("* the lesser first", 2, net.worth(5, 4));
        due("* the lesser first", NO, net.worth(5, 0));
        due("* the lesser first", NO, net.worth(5, 3));
        due("edges", 4, net.told(0));
        RingCounts full = new RingCounts();
        StringBuilder text = new StringBuilder("+0,1");
        for (int i = 0; i < 52; i++) {
            text.append(";*0");
        }
        due("a full tape", 160, text.length());
        due("the fullest batch", 2, Checks.batch(full, text.toString()));
        due("a fault behind many parts", -100 - 159, Checks.batch(full, "*0" + ";*0".repeat(52) + ";x"));
        due("a fault at the end of a full tape", -100 - 160, Checks.batch(full, "*0" + ";*0".repeat(52) + ";*"));
    }

    private static void batchFaults() {
        RingCounts net = net("+7,8");
        String before = Checks.stateOf(net);
        due("a text with a fault does nothing", -100 - 8, Checks.batch(net, "+0,1;+1,x"));
        checks.dueText("a text with a fault does nothing", before, Checks.stateOf(net));
        due("the tape is empty all the same", 0, net.clear());
        dueBatch("", -100);
        String[] early = {"+", "-", "~", "*", "+1", "+1,", "-12,", "+0,1=", "+0,1=-", "+0,1;", "*3;", "+0,1;-"};
        for (String text : early) {
            dueBatch(text, -100 - text.length());
        }
        Object[][] faults = {
            {"x", 0}, {" +0,1", 0}, {"0,1", 0}, {";", 0}, {"+0,1;;", 5}, {"+,1", 1}, {"+a", 1}, {"+-1,2", 1},
            {"+0;1", 2}, {"+0,;", 3}, {"+0,1x", 4}, {"+0,1,", 4}, {"+0,1=x", 5}, {"+0,1=--1", 6}, {"+0,1=+1", 5},
            {"+100,1", 3}, {"+1,100", 5}, {"+001,2", 3}, {"+40,1", 1}, {"+1,40", 3}, {"+99", 1}, {"+5,5", 3},
            {"+5,05", 3}, {"+05,5=3", 4}, {"+5,5x", 3}, {"-3,3", 3}, {"~39,39", 4}, {"*40", 1}, {"*3,4", 2},
            {"*3=4", 2}, {"-0,1=4", 4}, {"~0,1=4", 4}, {"+0,1=2000001", 5}, {"+0,1=-2000001", 6},
            {"+0,1=10000000", 12}, {"+0,1=00000001", 12}, {"+0,1=9999999", 5}, {"+0,1=99999999", 5},
            {"+0,1=20000001", 12}, {"+0,1=1;x", 7}, {"+0,1=1=1", 6}, {"+0,1 ", 4}, {"*1;+2,2;x", 6}};
        for (Object[] fault : faults) {
            dueBatch((String) fault[0], -100 - (Integer) fault[1]);
        }
        dueBatch("+0,1=2000000;+0,2=-2000000;+0,3=-0;+38,39;-4,5;~1,10;*39", 6);
    }

    // 24, 25
    private static void picks() {
        RingCounts net = kite();
        long[] all = new long[40];
        for (int v = 0; v < 40; v++) {
            all[v] = v;
        }
        due("nothing is picked at first", 0, net.picked());
        duePick(net, "n=3", 3);
        duePick(net, "n<3", 0, 1, 2);
        duePick(net, "n>37", 38, 39);
        duePick(net, "n<999", all);
        duePick(net, "n>000", java.util.Arrays.copyOfRange(all, 1, 40));
        duePick(net, "d=3", 0, 1, 3);
        duePick(net, "d>2", 0, 1, 3);
        duePick(net, "t=2", 0, 1);
        duePick(net, "t>0", 0, 1, 2, 3);
        duePick(net, "c=2", 0, 1, 2, 3);
        duePick(net, "c=1", 4, 38, 39);
        duePick(net, "h=1", 0);
        duePick(net, "h>0&n=0", 0);
        duePick(net, "h<1&d>0", 1, 2, 3, 4, 38, 39);
        duePick(net, "h=2");
        duePick(net, "n=1|n=2&n=3", 1);
        duePick(net, "n=2&n=3|n=1", 1);
        duePick(net, "(n=1|n=2)&n=2", 2);
        duePick(net, "n=1|n=2|n=3|n=1", 1, 2, 3);
        duePick(net, "n>0&n>1&n<5&n<4", 2, 3);
        duePick(net, "!n<38", 38, 39);
        duePick(net, "!n<38|n=1", 1, 38, 39);
        duePick(net, "!n=39&n>37", 38);
        duePick(net, "Sd=1", 3, 38, 39);
        duePick(net, "Sn=4", 3);
        duePick(net, "Ad=3&d>0", 2, 4);
        duePick(net, "A(d>2|n=38)&d>0", 2, 4, 39);
        duePick(net, "An=0&n<6", 5);
        duePick(net, "Sn=3&n=4|n=9", 4, 9);
        duePick(net, "SSn=4", 0, 1, 4);
        duePick(net, "!Sn<40&n<10", 5, 6, 7, 8, 9);
        duePick(net, "!!!!n=7", 7);
        duePick(net, "((((n=7))))", 7);
        duePick(net, "SA!n=3&n<5", 0, 1, 4);
        duePick(net, "S(A(n<2))&n<5", 0, 1);
        duePick(net, "n=40");
        due("the tape is empty", 0, net.clear());
        net.cut(3, 4);
        due("picked stays as all was then", 0, net.picked());
        Checks.pick(net, "d=1");
        net.add(38, 1, 1);
        due("picked stays as all was then", Checks.bits(38, 39), net.picked());
    }

    private static void pickFaults() {
        RingCounts net = kite();
        duePick(net, "n=3", 3);
        dueBadPick(net, "", 0);
        String[] early = {"n", "n=", "n=1|", "n=1&", "(", "!", "S", "A", "(n=1", "(n=1|n=2", "((n=1)", "!(S"};
        for (String text : early) {
            dueBadPick(net, text, text.length());
        }
        Object[][] faults = {
            {"x", 0}, {"N=1", 0}, {"=1", 0}, {"1", 0}, {")", 0}, {"&", 0}, {"s=1", 0}, {"n1", 1}, {"n!1", 1},
            {"n==1", 2}, {"n=x", 2}, {"n=-1", 2}, {"n=1000", 5}, {"n=0001", 5}, {"n=1)", 3}, {"n=1 ", 3},
            {"n=1||n=2", 4}, {"n=1(n=2)", 3}, {"n=1n=2", 3}, {"()", 1}, {"(n=1)n", 5}, {"(n=1;", 4}, {"!&", 1},
            {"!!!!!n=1", 4}, {"(((((n=1)))))", 4}, {"SSSSSn=1", 4}, {"AAAAAn=1", 4}, {"!S(A(n=1))", 4},
            {"((((n=1|(n=2)))))", 8}, {"((((n=1))))|((((!n=1))))", 16}, {"n=1|!!!!!", 8}, {"!!!!x", 4}};
        for (Object[] fault : faults) {
            dueBadPick(net, (String) fault[0], (Integer) fault[1]);
        }
        Checks.pick(net, "n=x");
        due("the tape is empty behind a fault", 0, net.clear());
        StringBuilder longest = new StringBuilder("n=1");
        while (longest.length() + 4 <= 160) {
            longest.append("|d=9");
        }
        duePick(net, longest.toString(), 1);
    }

    // 26, 27
    private static void paper() {
        RingCounts net = kite();
        checks.dueText("paper", "+0,1=2;+0,2=3;+0,3=7;+1,2=5;+1,3=-11;+3,4=13;+38,39=0", Checks.spelled(net));
        due("bytes of the paper", 53, net.told(12));
        due("paper", '+', net.paper(0));
        due("paper", '0', net.paper((int) net.told(12) - 1));
        due("paper", -1, net.paper((int) net.told(12)));
        due("paper", -1, net.paper(-1));
        due("paper", -1, net.paper(MAX));
        due("paper", -1, net.paper(MIN));
        net.cut(0, 1);
        due("paper stays the latest one", '+', net.paper(7));
        due("paper stays the latest one", '2', net.paper(5));
        checks.dueText("paper anew", "+0,2=3;+0,3=7;+1,2=5;+1,3=-11;+3,4=13;+38,39=0", Checks.spelled(net));
        checks.dueText("paper of 1", "+0,1;+10,20=-1;+30,39=1000000;+38,39=-2000000",
            Checks.spelled(net("+38,39=-2000000;+30,39=1000000;+1,0=1;+20,10=-1")));
        RingCounts none = new RingCounts();
        due("paper of none", 0, none.spell());
        due("paper of none", -1, none.paper(0));
        Checks.batch(net, "*0;*1;*3;*38");
        due("paper of none any more", 0, net.spell());
        due("paper of none any more", -1, net.paper(0));
        RingCounts much = new RingCounts();
        for (int u = 10; u < 33; u++) {
            for (int v = u + 1; v < 33; v++) {
                much.add(u, v, -2000000);
            }
        }
        due("a long paper", 253 * 16 - 1, much.spell());
        due("a long paper ends", '0', much.paper(253 * 16 - 2));
    }

    // 28
    private static void back() {
        RingCounts net = new RingCounts();
        due("back of none", 0, net.back(60));
        net.add(0, 1, 7);
        net.add(0, 2, 8);
        net.cut(0, 1);
        due("back bad", -2, net.back(-1));
        due("back bad", -2, net.back(61));
        due("back bad", -2, net.back(MIN));
        due("back 0", 0, net.back(0));
        due("back 1", 1, net.back(1));
        due("it comes with its worth", 7, net.worth(0, 1));
        due("a change, too", 4, net.told(9));
        due("neither may go back", 2, net.told(10));
        due("back 5: all", 2, net.back(5));
        due("nothing is left", 0, net.told(0));
        due("nothing may go back", 0, net.told(10));
        due("changes", 6, net.told(9));
        for (int i = 0; i < 70; i++) {
            due("add", 0, net.add(i / 35, 2 + i % 35, i));
        }
        due("60 may go back", 60, net.told(10));
        due("back 1", 1, net.back(1));
        due("59 may", 59, net.told(10));
        due("back 60", 59, net.back(60));
        due("ten stay for good", 10, net.told(0));
        checks.dueText("the first ten", "+0,2=0;+0,3;+0,4=2;+0,5=3;+0,6=4;+0,7=5;+0,8=6;+0,9=7;+0,10=8;+0,11=9",
            Checks.spelled(net));
        due("none may", 0, net.back(1));
        due("the tenth stays", 9, net.worth(0, 11));
        due("the eleventh is gone", NO, net.worth(0, 12));
    }

    private static void backMovesAll() {
        RingCounts net = net("+0,1;+0,2;+0,3;+0,4");
        due("span 8", 8, net.told(3));
        due("heavy", 1, net.told(5));
        due("back", 3, net.back(3));
        // 3, 2 left: 0 stays HEAVY; with 1 left it is LIGHT: one of MOVES; SPAN 8 has a fourth of 2: REBASED.
        due("one left is below a fourth", 3, net.told(3));
        due("rebased", 4, net.told(8));
        due("light", 0, net.told(5));
        due("changes", 7, net.told(9));
        RingCounts swap = net("+0,1=5;+2,3=6");
        swap.swap(0, 1, 2, 3);
        due("the latest of four goes back", 1, swap.back(1));
        due("1-2 is gone", NO, swap.worth(1, 2));
        due("0-3 is there", 5, swap.worth(0, 3));
        due("two more", 2, swap.back(2));
        due("2-3 is there again", 6, swap.worth(2, 3));
        due("0-1 isn't yet", NO, swap.worth(0, 1));
    }

    // 29, 30, 31
    private static void lists() {
        RingCounts net = new RingCounts();
        due("list none", -1, net.list(-1, 5));
        due("list none", -1, net.list(6, 5));
        due("list none ahead of bad", -1, net.list(6, 61));
        due("list bad", -2, net.list(0, 61));
        due("list bad", -2, net.list(0, MAX));
        due("list below", -14, net.list(0, -1));
        due("list below", -14, net.list(0, MIN));
        due("nothing", -11, net.set(0, 0, 1));
        due("nothing", NO, net.get(0, 0));
        due("list of 0", 1, net.list(0, 0));
        due("beyond", -13, net.set(0, 0, 1));
        due("beyond", NO, net.get(0, 0));
        for (int list = 0; list < 6; list++) {
            due("list of 60", 1, net.list(list, 60));
            due("all 0", 0, net.get(list, 59));
            due("set", 1, net.set(list, 59, (1L << 40) + (1L << 31) + 5));
            long want = list < 4 ? 5 - (1L << 31) : (1L << 40) + (1L << 31) + 5;
            due("of ints the lowest 32 bits", want, net.get(list, 59));
            due("set", 1, net.set(list, 0, Long.MIN_VALUE));
            due("get", list < 4 ? 0 : Long.MIN_VALUE, net.get(list, 0));
            due("set -1", 1, net.set(list, 1, -1));
            due("get -1", -1, net.get(list, 1));
            due("set beyond", -13, net.set(list, 60, 1));
            due("set beyond", -13, net.set(list, -1, 1));
            due("set beyond", -13, net.set(list, MAX, 1));
            due("get beyond", NO, net.get(list, 60));
            due("get beyond", NO, net.get(list, -1));
            due("get beyond", NO, net.get(list, MIN));
            due("a wrong size leaves it", -2, net.list(list, 61));
            due("a wrong size leaves it", -1, net.get(list, 1));
            due("list anew", 1, net.list(list, 3));
            due("all 0 again", 0, net.get(list, 0));
            due("all 0 again", 0, net.get(list, 1));
            due("shorter", NO, net.get(list, 3));
        }
        due("set none", -1, net.set(6, 0, 1));
        due("set none", -1, net.set(-1, 0, 1));
        due("get none", NO, net.get(6, 0));
        due("get none", NO, net.get(-1, 0));
        net.set(1, 0, 77);
        net.image();
        net.set(1, 0, 78);
        net.undo();
        due("lists are none of the image", 78, net.get(1, 0));
    }

    // 32
    private static void move() {
        RingCounts net = new RingCounts();
        due("move none", -1, net.move(-1, 0, 0, 0, 0));
        due("move none", -1, net.move(0, 0, 6, 0, 0));
        due("move none", -1, net.move(MAX, 0, MIN, 0, 0));
        due("move nothing", -11, net.move(0, 0, 1, 0, 0));
        net.list(0, 5);
        net.list(4, 5);
        due("move to nothing", -11, net.move(0, 0, 1, 0, 0));
        due("move from nothing", -11, net.move(1, 0, 0, 0, 0));
        due("move nothing ahead of cast", -11, net.move(0, 0, 5, 0, 0));
        due("move cast", -12, net.move(0, 0, 4, 0, 0));
        due("move cast", -12, net.move(4, 0, 0, 0, 1));
        due("move cast ahead of beyond", -12, net.move(4, -1, 0, 0, 1));
        net.list(1, 3);
        for (int i = 0; i < 5; i++) {
            net.set(0, i, i + 1);
        }
        int[][] beyond = {{0, 0, -1}, {-1, 0, 1}, {0, -1, 1}, {0, 0, 4}, {3, 0, 3}, {0, 2, 2}, {6, 0, 0}, {0, 4, 0},
            {MAX, 0, 1}, {0, MAX, 1}, {1, 1, MAX}, {MAX, MAX, MAX}, {MIN, 0, 0}, {0, MIN, 0}, {0, 0, MIN}};
        for (int[] b : beyond) {
            due("move beyond", -13, net.move(0, b[0], 1, b[1], b[2]));
        }
        due("nothing moved", 0, net.get(1, 0) + net.get(1, 1) + net.get(1, 2));
        due("move none of them", 0, net.move(0, 5, 1, 3, 0));
        due("move", 2, net.move(0, 3, 1, 1, 2));
        due("moved", 0, net.get(1, 0));
        due("moved", 4, net.get(1, 1));
        due("moved", 5, net.get(1, 2));
        due("the first keeps its own", 4, net.get(0, 3));
        due("move up in itself", 4, net.move(0, 0, 0, 1, 4));
        long[] up = {1, 1, 2, 3, 4};
        for (int i = 0; i < 5; i++) {
            due("moved up", up[i], net.get(0, i));
        }
        due("move down in itself", 3, net.move(0, 2, 0, 0, 3));
        long[] down = {2, 3, 4, 3, 4};
        for (int i = 0; i < 5; i++) {
            due("moved down", down[i], net.get(0, i));
        }
        net.list(5, 1);
        net.set(4, 4, Long.MAX_VALUE);
        due("move longs", 1, net.move(4, 4, 5, 0, 1));
        due("moved a long", Long.MAX_VALUE, net.get(5, 0));
    }

    // 33
    private static void lay() {
        RingCounts net = kite();
        due("lay none", -1, net.lay(-1, 0, 0));
        due("lay none", -1, net.lay(6, 0, 0));
        due("lay none", -1, net.lay(0, 0, -1));
        due("lay none", -1, net.lay(0, 0, 4));
        due("lay nothing", -11, net.lay(0, 0, 0));
        int[][] figures = {{3, 3, 2, 3, 1, 0}, {2, 2, 1, 1, 0, 0}, {2, 2, 2, 2, 1, 0}, {1, 1, 1, 1, 0, 0}};
        int[] last = {1, 0, 1, 0};
        for (int list = 0; list < 6; list++) {
            for (int sort = 0; sort < 4; sort++) {
                net.list(list, 42);
                due("lay", 40, net.lay(list, 2, sort));
                due("lay leaves what is ahead", 0, net.get(list, 0) + net.get(list, 1));
                for (int v = 0; v < 6; v++) {
                    due("laid " + sort + " of " + v, figures[sort][v], net.get(list, 2 + v));
                }
                due("laid the last", last[sort], net.get(list, 41));
            }
        }
        net.list(0, 42);
        net.set(0, 1, 9);
        due("lay beyond", -13, net.lay(0, 3, 0));
        due("those with a place are there", 3, net.get(0, 3));
        due("the last with a place is 38", 1, net.get(0, 41));
        due("what is ahead stays", 9, net.get(0, 1));
        net.list(0, 3);
        due("lay beyond all", -13, net.lay(0, 3, 0));
        due("lay beyond all", -13, net.lay(0, MAX, 0));
        due("lay below", -13, net.lay(0, -1, 0));
        due("lay below", -13, net.lay(0, MIN, 0));
        due("nothing is there", 0, net.get(0, 0) + net.get(0, 1) + net.get(0, 2));
        due("lay in short", -13, net.lay(0, 1, 0));
        due("lay in short", 3, net.get(0, 2));
        net.list(0, 0);
        due("lay in none", -13, net.lay(0, 0, 0));
    }

    // 34
    private static void judge() {
        RingCounts net = kite();
        due("judge none", -1, net.judge(-1, 0, 0));
        due("judge none", -1, net.judge(6, 0, 0));
        due("judge none", -1, net.judge(0, 0, -1));
        due("judge none", -1, net.judge(0, 0, 4));
        due("judge nothing", -11, net.judge(0, 0, 0));
        for (int list = 0; list < 6; list += 5) {
            net.list(list, 41);
            net.lay(list, 1, 0);
            due("judge all right", -5, net.judge(list, 1, 0));
            due("judge by another sort", 0, net.judge(list, 1, 1));
            due("judge a place off", 0, net.judge(list, 0, 0));
            due("judge where it ends", 0, net.judge(list, 2, 1));
            net.set(list, 40, 2);
            due("judge the last", 39, net.judge(list, 1, 0));
            net.set(list, 5, 2);
            due("judge the first that is not", 4, net.judge(list, 1, 0));
            due("judge below", 100, net.judge(list, -1, 0));
            due("judge below", 100, net.judge(list, MIN, 0));
            due("judge beyond", 100, net.judge(list, 41, 0));
            due("judge beyond", 100, net.judge(list, MAX, 0));
            net.list(list, 39);
            net.lay(list, 0, 0);
            due("judge: the row ends", 139, net.judge(list, 0, 0));
            net.list(list, 3);
            net.lay(list, 1, 0);
            due("judge: the row ends", 102, net.judge(list, 1, 0));
            net.list(list, 0);
            due("judge: no row", 100, net.judge(list, 0, 0));
        }
        net.list(4, 40);
        net.lay(4, 0, 0);
        net.set(4, 0, 3 + (1L << 32));
        due("judge a long as a long", 0, net.judge(4, 0, 0));
        due("judge changes nothing", 3 + (1L << 32), net.get(4, 0));
    }

    // 35, 36
    private static void image() {
        RingCounts net = kite();
        Checks.pick(net, "n<2");
        net.cut(3, 4);
        net.spell();
        String before = Checks.stateOf(net);
        due("image", 6, net.image());
        Checks.batch(net, "*0;*1;+20,21=4;+20,22;+20,23;+20,24;+20,25;+20,26;+0,1=99");
        Checks.pick(net, "n>5");
        net.back(2);
        due("undo", 6, net.undo());
        checks.dueText("all as it was", before, Checks.stateOf(net));
        due("what may go back is as it was", 1, net.back(1));
        due("it goes back", 13, net.worth(3, 4));
        due("undo again", 6, net.undo());
        checks.dueText("all as it was", before, Checks.stateOf(net));
        due("a worth", 2, net.worth(0, 1));
        net.add(9, 10, 1);
        due("another image", 7, net.image());
        Checks.batch(net, "*9");
        net.spell();
        long paper = net.told(12);
        due("undo", 7, net.undo());
        due("the paper is none of the image", paper, net.told(12));
        due("undo by the latest image", 1, net.two(9, 10, 3));
        due("undo", 7, net.undo());
        due("nine may go back by the image", 9, net.told(10));
        due("back behind the image", 5, net.back(5));
        Checks.batch(net, "+30,31;+32,33;+34,35;+36,37;+30,32;+33,34");
        due("undo", 7, net.undo());
        due("nine may go back", 9, net.told(10));
        due("what goes back is the image's", 2, net.back(2));
        due("9-10 went back", NO, net.worth(9, 10));
        due("3-4 came back", 13, net.worth(3, 4));
        RingCounts other = new RingCounts();
        due("image of none", 0, other.image());
        other.add(1, 2, 3);
        due("undo to none", 0, other.undo());
        due("span of none", 1, other.told(3));
        due("no changes", 0, other.told(9));
    }

    private static void nothingChangesByWrongCalls() {
        RingCounts net = kite();
        net.list(0, 5);
        net.set(0, 2, 4);
        net.spell();
        Checks.pick(net, "d>1");
        String before = Checks.stateOf(net);
        net.add(0, 1, 3);
        net.add(0, 5, 2000001);
        net.cut(0, 9);
        net.swap(0, 1, 2, 3);
        net.of(50, 9);
        net.two(0, 1, 9);
        net.edge(2, 3, 1);
        net.truss(3);
        net.hood(0, 1, 3);
        net.hoods(3);
        net.pieces(2);
        net.core(1);
        net.peeled(1, 1);
        net.value();
        net.fewest();
        net.broken(0);
        net.back(0);
        net.back(61);
        net.list(0, 61);
        net.list(0, -1);
        net.set(0, 5, 1);
        net.move(0, 0, 0, 3, 3);
        net.lay(0, -1, 0);
        net.judge(0, 0, 0);
        net.undo();
        Checks.batch(net, "+0,9;x");
        Checks.pick(net, "d>1x");
        checks.dueText("nothing was changed", before, Checks.stateOf(net));
    }

    public static void main(String[] args) {
        aNewObject();
        edgesComeAndGo();
        ofAVertex();
        ofTwo();
        ofAnEdge();
        swapped();
        nearAVertex();
        toldOfTheNet();
        heavyAndLight();
        bothEndsMove();
        heavyStaysByHalf();
        spanShrinks();
        eachPeelsAnew();
        trusses();
        hood();
        core();
        peeled();
        closed();
        value();
        broken();
        fewest();
        tape();
        batchDoes();
        batchFaults();
        picks();
        pickFaults();
        paper();
        back();
        backMovesAll();
        lists();
        move();
        lay();
        judge();
        image();
        nothingChangesByWrongCalls();
        checks.end();
    }
}
