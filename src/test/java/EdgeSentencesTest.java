/** The sentences of the first of the document's 'Terms', and of promises 1 to 10, each at its edges. */
public final class EdgeSentencesTest {
    private static final Checks checks = new Checks("EdgeSentencesTest");
    private static final long NO = Long.MIN_VALUE;
    private static final int MAX = Integer.MAX_VALUE;
    private static final int MIN = Integer.MIN_VALUE;
    private static final int[] NO_VERTICES = {-1, 40, -2, 41, MAX, MIN};

    private static void says(String words) {
        checks.says(words);
    }

    private static void due(String call, long want, long got) {
        checks.due(call, want, got);
    }

    private static RingCounts net(String batch) {
        return Checks.net(batch);
    }

    private static long bits(int... vertices) {
        return Checks.bits(vertices);
    }

    /** EDGES 0-1, 0-2, .. 0-39, 1-2, .. in their order, until there are so many. */
    private static RingCounts first(int count, int worth) {
        RingCounts net = new RingCounts();
        int come = 0;
        for (int u = 0; u < 40; u++) {
            for (int v = u + 1; v < 40 && come < count; v++) {
                net.add(u, v, worth);
                come++;
            }
        }
        return net;
    }

    private static void cutFirst(RingCounts net, int from, int to) {
        for (int v = from; v <= to; v++) {
            net.cut(0, v);
        }
    }

    // ---- VERTICES, EDGES

    private static void vertices() {
        says("VERTICES are 0 .. 39.");
        RingCounts net = new RingCounts();
        due("add 0 39", 0, net.add(0, 39, 1));
        due("cut 39 0", 0, net.cut(39, 0));
        due("add 39 0", 0, net.add(39, 0, 7));
        due("worth", 7, net.worth(0, 39));
        due("of 0", 1, net.of(0, 0));
        due("of 39", 1, net.of(39, 0));
        due("two 0 39", 1, net.two(0, 39, 3));
        due("edge 39 0", 0, net.edge(39, 0, 0));
        due("hood 0 39", 1, net.hood(0, 39, 2));
        due("near 0", 1L << 39, net.near(0));
        due("near 39", 1, net.near(39));
        due("add 1 38", 0, net.add(1, 38, 1));
        due("swap 0 39 1 38", 0, net.swap(0, 39, 1, 38));
        due("near 0 behind a swap", 1L << 38, net.near(0));
        due("near 39 behind a swap", 2, net.near(39));
        String before = Checks.lookAt(net);
        for (int bad : NO_VERTICES) {
            noSuchVertex(net, bad);
        }
        checks.dueText("nothing is changed", before, Checks.lookAt(net));
    }

    private static void noSuchVertex(RingCounts net, int bad) {
        due("add " + bad + " 0", -1, net.add(bad, 0, 1));
        due("add 0 " + bad, -1, net.add(0, bad, 1));
        due("cut " + bad + " 38", -1, net.cut(bad, 38));
        due("cut 0 " + bad, -1, net.cut(0, bad));
        due("worth " + bad + " 0", NO, net.worth(bad, 0));
        due("worth 0 " + bad, NO, net.worth(0, bad));
        due("near " + bad, NO, net.near(bad));
        due("hood " + bad + " 0", -1, net.hood(bad, 0, 2));
        due("hood 0 " + bad, -1, net.hood(0, bad, 2));
        due("swap " + bad + " 38 39 1", -1, net.swap(bad, 38, 39, 1));
        due("swap 0 " + bad + " 39 1", -1, net.swap(0, bad, 39, 1));
        due("swap 0 38 " + bad + " 1", -1, net.swap(0, 38, bad, 1));
        due("swap 0 38 39 " + bad, -1, net.swap(0, 38, 39, bad));
        for (int what = 0; what < 6; what++) {
            due("of " + bad + " " + what, -1, net.of(bad, what));
        }
        for (int what = 0; what < 5; what++) {
            due("two " + bad + " 0 " + what, -1, net.two(bad, 0, what));
            due("two 0 " + bad + " " + what, -1, net.two(0, bad, what));
            due("edge " + bad + " 0 " + what, -1, net.edge(bad, 0, what));
            due("edge 0 " + bad + " " + what, -1, net.edge(0, bad, what));
        }
        if (bad != -1) {
            due("closed " + bad + " 0", NO, net.closed(bad, 0));
            due("closed " + bad + " 1", NO, net.closed(bad, 1));
        }
    }

    private static void unlike() {
        says("EDGES join two unlike VERTICES");
        for (int v : new int[] {0, 1, 20, 39}) {
            RingCounts net = new RingCounts();
            due("add", -1, net.add(v, v, 1));
            due("told 0", 0, net.told(0));
            due("near", 0, net.near(v));
        }
        says("NONE (-1) no such number (of two VERTICES that are one, too)");
        RingCounts net = net("+0,1;+2,3");
        due("cut 0 0", -1, net.cut(0, 0));
        due("worth 1 1", NO, net.worth(1, 1));
        for (int what = 0; what < 5; what++) {
            due("two 0 0", -1, net.two(0, 0, what));
            due("edge 0 0", -1, net.edge(0, 0, what));
        }
        due("hood 0 0", -1, net.hood(0, 0, 2));
        due("hood 39 39", -1, net.hood(39, 39, 2));
        int[][] likes = {{0, 0, 2, 3}, {0, 1, 0, 3}, {0, 1, 2, 0}, {0, 1, 1, 3}, {0, 1, 2, 1}, {0, 1, 2, 2}};
        for (int[] s : likes) {
            due("swap", -1, net.swap(s[0], s[1], s[2], s[3]));
        }
        due("told 9", 2, net.told(9));
    }

    private static void onceAtMost() {
        says("(each two once at most; none at first)");
        RingCounts net = new RingCounts();
        for (int v = 0; v < 40; v++) {
            due("near at first", 0, net.near(v));
        }
        due("told 0 at first", 0, net.told(0));
        due("cut at first", -3, net.cut(0, 1));
        due("worth at first", NO, net.worth(0, 1));
        due("edge at first", -3, net.edge(0, 1, 0));
        due("hood at first", -3, net.hood(0, 1, 2));
        due("add", 0, net.add(3, 4, 6));
        due("add twice", -3, net.add(3, 4, 6));
        due("add twice, the other way", -3, net.add(4, 3, 9));
        due("worth stays", 6, net.worth(4, 3));
        due("told 0", 1, net.told(0));
        due("told 9", 1, net.told(9));
        due("told 10", 1, net.told(10));
        due("cut", 0, net.cut(4, 3));
        due("cut twice", -3, net.cut(4, 3));
        due("cut twice, the other way", -3, net.cut(3, 4));
        due("add again", 0, net.add(4, 3, 9));
        due("its worth is the new one", 9, net.worth(3, 4));
    }

    private static void worths() {
        says("and have a WORTH (-2000000 .. 2000000).");
        RingCounts net = new RingCounts();
        int[] worths = {-2000000, -1999999, -1, 0, 1, 1999999, 2000000};
        for (int i = 0; i < worths.length; i++) {
            due("add with " + worths[i], 0, net.add(i, 39 - i, worths[i]));
            due("worth " + worths[i], worths[i], net.worth(39 - i, i));
        }
        String before = Checks.lookAt(net);
        for (int bad : new int[] {-2000001, 2000001, MIN, MAX, -2147480000, 2000000000}) {
            due("add with " + bad, -2, net.add(10, 11, bad));
        }
        due("no worth", NO, net.worth(10, 11));
        checks.dueText("nothing is changed", before, Checks.lookAt(net));
        says("NO: u, v, or no EDGE.");
        due("worth of no edge", NO, net.worth(0, 1));
        due("worth of one that is 0 is no NO", 0, net.worth(3, 36));
    }

    private static void order() {
        says("An EDGE is told by its lesser VERTEX, then its greater one: so they are in an order.");
        RingCounts net = new RingCounts();
        net.add(39, 38, 2);
        net.add(5, 1, 3);
        net.add(10, 2, 4);
        net.add(2, 1, 5);
        net.add(39, 0, 6);
        net.add(3, 0, 7);
        int[][] order = {{0, 3}, {0, 39}, {1, 2}, {1, 5}, {2, 10}, {38, 39}};
        for (int i = 0; i < order.length; i++) {
            due("peeled lesser", order[i][0], net.peeled(i, 0));
            due("peeled greater", order[i][1], net.peeled(i, 1));
            due("turn", i, net.edge(order[i][1], order[i][0], 2));
        }
        checks.dueText("spelled", "+0,3=7;+0,39=6;+1,2=5;+1,5=3;+2,10=4;+38,39=2", Checks.spelled(net));
    }

    // ---- what is counted

    private static void nearAndDegree() {
        says("NEAR a VERTEX are those that an EDGE joins with it, its DEGREE is how many.");
        RingCounts net = new RingCounts();
        due("degree of none", 0, net.of(20, 0));
        for (int v = 0; v < 40; v++) {
            if (v != 20) {
                net.add(v, 20, 1);
            }
        }
        due("degree of 39", 39, net.of(20, 0));
        due("all but itself", (1L << 40) - 1 - (1L << 20), net.near(20));
        due("of 0", 1, net.of(0, 0));
        due("near 0", 1L << 20, net.near(0));
        due("near 39", 1L << 20, net.near(39));
        net.cut(39, 20);
        due("degree of 38", 38, net.of(20, 0));
        due("near 39 behind a cut", 0, net.near(39));
        due("near 20 behind a cut", (1L << 39) - 1 - (1L << 20), net.near(20));
        says("Those NEAR a VERTEX (bits). NO.");
        due("near 40", NO, net.near(40));
        due("near -1", NO, net.near(-1));
        due("near 0 stays", 1L << 20, net.near(0));
        says("EDGE COUNT: how many EDGES there are.");
        due("told 0", 38, net.told(0));
        due("a wrong add", -2, net.add(0, 1, 2000001));
        due("told 0 behind a wrong add", 38, net.told(0));
        due("told 0 of a new one", 0, new RingCounts().told(0));
    }

    /** 0 and 1 joined with all others, and with none else: 76 EDGES. */
    private static RingCounts pages() {
        RingCounts net = new RingCounts();
        for (int v = 2; v < 40; v++) {
            net.add(0, v, 1);
            net.add(v, 1, 1);
        }
        return net;
    }

    private static void manyShared() {
        RingCounts net = pages();
        says("SHARED of two VERTICES: how many are NEAR both.");
        due("not joined, 38", 38, net.two(0, 1, 0));
        due("not joined, 2", 2, net.two(2, 39, 0));
        due("joined, none", 0, net.two(0, 2, 0));
        says("A TRIANGLE: three VERTICES, each two joined.");
        due("none yet", 0, net.told(1));
        due("none yet of 0", 0, net.of(0, 1));
        says("A RING: four unlike VERTICES going round, each joined with the next");
        due("two of 38", 703, net.told(2));
        due("of 0", 703, net.of(0, 4));
        due("of 1", 703, net.of(1, 4));
        due("of 2: one of the others", 37, net.of(2, 4));
        due("of 39", 37, net.of(39, 4));
        due("of the edge 0 2", 37, net.edge(0, 2, 3));
        says("how many ways lead from one to the other over two others, unlike, by three EDGES");
        due("0 to 2 by another one and 1", 37, net.two(0, 2, 2));
        due("0 to 1: none by three", 0, net.two(0, 1, 2));
        due("2 to 3: none by three", 0, net.two(2, 3, 2));
        says("An EDGE comes: how many TRIANGLES have it.");
        due("add 0 1", 38, net.add(0, 1, 1));
        due("told 1", 38, net.told(1));
        due("support", 38, net.edge(1, 0, 0));
        due("rings stay: a chord is none of their edges", 703, net.told(2));
        due("the new edge is in none", 0, net.edge(0, 1, 3));
        due("ways along the new edge aren't by two others", 0, net.two(0, 1, 2));
        says("An EDGE goes: how many TRIANGLES had it.");
        due("cut 0 2", 1, net.cut(2, 0));
        due("cut 0 1", 37, net.cut(1, 0));
        due("told 1", 0, net.told(1));
        due("cut none", -3, net.cut(1, 0));
        due("cut of no triangle", 0, net.cut(1, 2));
    }

    private static void rings() {
        says("whatever else joins them (the same going round told from elsewhere or the other way is the same RING)");
        RingCounts net = net("+0,1;+1,2;+2,3");
        due("a path is none", 0, net.told(2));
        net.add(3, 0, 1);
        due("a ring is one", 1, net.told(2));
        for (int v = 0; v < 4; v++) {
            due("of each", 1, net.of(v, 4));
            due("of each edge", 1, net.edge(v, (v + 1) % 4, 3));
        }
        net.add(0, 2, 1);
        due("a ring with a chord is one", 1, net.told(2));
        due("the chord is not in it", 0, net.edge(0, 2, 3));
        net.add(1, 3, 1);
        due("four whole are three", 3, net.told(2));
        for (int v = 0; v < 4; v++) {
            due("of each", 3, net.of(v, 4));
            due("of each edge", 2, net.edge(v, (v + 1) % 4, 3));
        }
        due("the chord is in two", 2, net.edge(0, 2, 3));
        due("a triangle with a tail is none", 0, net("+0,1;+1,2;+2,0;+2,3").told(2));
        due("a ring of five is none", 0, net("+0,1;+1,2;+2,3;+3,4;+4,0").told(2));
        due("a ring of 39, 5, 22, 0", 1, net("+39,5;+22,5;+0,22;+39,0").told(2));
    }

    private static void fours() {
        says("FOURS: four VERTICES, each two joined.");
        RingCounts net = net("+0,1;+0,2;+0,3;+1,2;+1,3");
        due("one edge is missing", 0, net.told(13));
        due("of 0", 0, net.of(0, 5));
        due("of 0 1", 0, net.edge(0, 1, 4));
        net.add(3, 2, 1);
        due("all six", 1, net.told(13));
        for (int v = 0; v < 4; v++) {
            due("of each", 1, net.of(v, 5));
            due("of each edge", 1, net.edge(v, (v + 1) % 4, 4));
        }
        due("of another", 0, net.of(4, 5));
        RingCounts six = Checks.whole(6);
        due("of six: 15", 15, six.told(13));
        due("of one of six: 10", 10, six.of(5, 5));
        due("of two of six: 6", 6, six.edge(5, 0, 4));
        says("SUPPORT of an EDGE: how many TRIANGLES have it.");
        due("of six: 4", 4, six.edge(5, 0, 0));
        due("with one edge missing", 2, net("+0,1;+0,2;+0,3;+1,2;+1,3").edge(0, 1, 0));
        due("none", 0, net("+0,1;+1,2;+2,3;+3,0").edge(0, 1, 0));
    }

    private static void far() {
        says("FAR, of two: the fewest EDGES that lead from one to the other (-5: none do).");
        RingCounts net = new RingCounts();
        due("nothing joined", -5, net.two(0, 39, 4));
        for (int v = 0; v < 39; v++) {
            net.add(v, v + 1, 1);
        }
        due("from end to end", 39, net.two(0, 39, 4));
        due("from end to end, the other way", 39, net.two(39, 0, 4));
        due("next", 1, net.two(20, 19, 4));
        due("over one", 2, net.two(20, 22, 4));
        net.add(0, 39, 1);
        due("joined: 1", 1, net.two(0, 39, 4));
        due("the shorter way round", 20, net.two(0, 20, 4));
        due("the shorter way round", 19, net.two(0, 21, 4));
        net.cut(20, 21);
        net.cut(3, 4);
        due("cut off", -5, net.two(0, 10, 4));
        due("cut off", -5, net.two(10, 0, 4));
        due("still round", 22, net.two(3, 21, 4));
    }

    // ---- SPAN, HEAVY ones

    private static void spanGrows() {
        says("SPAN is 1 at first; BOUND is the least t (1 or more) with t times t at least SPAN.");
        RingCounts net = new RingCounts();
        due("span at first", 1, net.told(3));
        due("bound at first", 1, net.told(4));
        int[] bounds = {2, 2, 3, 4, 6, 8, 12, 16, 23};
        int come = 0;
        int power = 0;
        says("if it came and EDGE COUNT is SPAN: SPAN is doubled and the net REBASED");
        for (int u = 0; u < 40 && come < 256; u++) {
            for (int v = u + 1; v < 40 && come < 256; v++) {
                net.add(u, v, 1);
                come++;
                if (come == 1 << power) {
                    due("span with " + come, 2L << power, net.told(3));
                    due("bound with " + come, bounds[power], net.told(4));
                    due("rebases with " + come, power + 1, net.told(8));
                    power++;
                } else if (come == (1 << power) - 1) {
                    due("span with " + come, 1L << power, net.told(3));
                    due("rebases with " + come, power, net.told(8));
                }
            }
        }
        due("power", 9, power);
    }

    private static void spanSinks() {
        says("if it went and EDGE COUNT is below a fourth of SPAN (cut): SPAN becomes its half (cut) less 1");
        RingCounts net = first(16, 1);
        due("16: 32", 32, net.told(3));
        cutFirst(net, 1, 8);
        due("8 of 32 is no less than a fourth", 32, net.told(3));
        due("no rebase", 5, net.told(8));
        net.cut(0, 9);
        due("7 of 32", 15, net.told(3));
        due("bound of 15", 4, net.told(4));
        due("one rebase more", 6, net.told(8));
        cutFirst(net, 10, 13);
        due("3 of 15: its fourth is cut to 3", 15, net.told(3));
        net.cut(0, 14);
        due("2 of 15: its half is cut to 7", 6, net.told(3));
        due("bound of 6", 3, net.told(4));
        net.cut(0, 15);
        due("1 of 6: its fourth is cut to 1", 6, net.told(3));
        net.cut(0, 16);
        due("0 of 6", 2, net.told(3));
        due("bound of 2", 2, net.told(4));
        due("rebases", 8, net.told(8));
        due("changes", 32, net.told(9));
    }

    private static void smallSpans() {
        says("(1, if that is below 1)");
        RingCounts net = net("+0,1;+0,2");
        due("span 4", 4, net.told(3));
        net.cut(0, 1);
        due("1 of 4", 4, net.told(3));
        net.cut(0, 2);
        due("0 of 4", 1, net.told(3));
        due("bound of 1", 1, net.told(4));
        due("rebases", 3, net.told(8));
        net.add(0, 1, 1);
        due("1 of 1", 2, net.told(3));
        net.cut(0, 1);
        due("0 of 2: no number of EDGES is below 0", 2, net.told(3));
        due("rebases", 4, net.told(8));
        RingCounts odd = net("+0,1;+2,3;+4,5;+6,7;-0,1;-2,3");
        due("2 of 8", 8, odd.told(3));
        odd.cut(4, 5);
        due("1 of 8", 3, odd.told(3));
        due("bound of 3", 2, odd.told(4));
        odd.cut(6, 7);
        due("0 of 3: its fourth is cut to 0", 3, odd.told(3));
        due("rebases", 4, odd.told(8));
        odd.add(0, 1, 1);
        odd.add(0, 2, 1);
        due("2 of 3", 3, odd.told(3));
        odd.add(0, 3, 1);
        due("3 of 3", 6, odd.told(3));
        due("0 is heavy with a bound of 3", 1, odd.told(5));
    }

    private static void rebased() {
        says("A VERTEX is LIGHT (at first) or HEAVY.");
        RingCounts net = new RingCounts();
        for (int v = 0; v < 40; v++) {
            due("light", 0, net.of(v, 2));
        }
        says("just those VERTICES are HEAVY whose DEGREE is BOUND or more; REBASES is 1 more");
        net.add(5, 6, 1);
        due("rebases 1", 1, net.told(8));
        due("degrees of 1, bound 2", 0, net.told(5));
        net.add(5, 7, 1);
        due("rebases 2", 2, net.told(8));
        due("a degree of 2, bound 2", 1L << 5, net.told(5));
        due("of 5", 1, net.of(5, 2));
        due("of 6", 0, net.of(6, 2));
        net.add(8, 9, 1);
        due("no rebase", 2, net.told(8));
        net.add(10, 11, 1);
        due("rebases 3", 3, net.told(8));
        due("a degree of 2, bound 3: light again", 0, net.told(5));
        due("no moves by that", 0, net.told(6));
        due("nothing carried by that", 0, net.told(7));
        RingCounts three = net("+0,1;+0,2;+0,3;+8,9");
        due("a degree of 3, bound 3", 1, three.told(5));
        due("no moves", 0, three.told(6));
        due("nothing carried", 0, three.told(7));
        RingCounts sunk = net("+0,1;+0,2;+3,4;+5,6;+7,8;+9,10;+11,12;+13,14;-5,6;-7,8;-9,10;-11,12");
        due("span 16, bound 4", 0, sunk.told(5));
        sunk.cut(13, 14);
        due("span 7, bound 3", 7, sunk.told(3));
        due("a degree of 2", 0, sunk.told(5));
        sunk.cut(3, 4);
        sunk.add(0, 3, 1);
        due("a degree of 3 alone moves none", 0, sunk.told(5));
    }

    private static void rebasedBySinking() {
        // At the fourth EDGE the BOUND is 3, and 0 with a DEGREE of 2 is LIGHT; with SPAN 3 it would be 2.
        RingCounts net = net("+1,2;+3,4;+0,1;+0,5");
        due("light with a degree of 2", 0, net.of(0, 2));
        net.cut(1, 2);
        due("2 of 8 is no less than a fourth: 3 left", 8, net.told(3));
        net.cut(3, 4);
        due("2 left", 8, net.told(3));
        RingCounts two = net("+1,2;+3,4;+5,6;+7,8;+0,1;+0,2;+0,3;+11,12");
        due("span 16, bound 4, a degree of 3", 0, two.told(5));
        Checks.batch(two, "-1,2;-3,4;-5,6;-7,8");
        due("4 of 16", 16, two.told(3));
        two.cut(11, 12);
        due("3 of 16", 7, two.told(3));
        due("a degree of 3 is heavy by bound 3", 1, two.told(5));
        due("by no move", 0, two.told(6));
    }

    private static void lightBecomesHeavy() {
        says("a LIGHT one becomes HEAVY, if twice its DEGREE is three times BOUND or more");
        RingCounts net = net("+20,21;+22,23;+24,25;+26,27;+28,29;+30,31;+32,33;+34,35");
        due("bound 4", 4, net.told(4));
        for (int v = 1; v <= 5; v++) {
            net.add(0, v, 1);
        }
        due("a degree of 5: 10 is below 12", 0, net.told(5));
        due("no moves", 0, net.told(6));
        net.add(0, 6, 1);
        due("a degree of 6: 12 is 12", 1, net.told(5));
        due("one move", 1, net.told(6));
        due("carried 6", 6, net.told(7));
        RingCounts three = net("+20,21;+22,23;+24,25;+26,27;-20,21;-22,23");
        due("bound 3", 3, three.told(4));
        for (int v = 36; v <= 39; v++) {
            three.add(35, v, 1);
        }
        due("a degree of 4: 8 is below 9", 0, three.told(5));
        three.add(35, 0, 1);
        due("a degree of 5: 10 is above 9", 1L << 35, three.told(5));
        due("carried 5", 5, three.told(7));
    }

    private static void heavyBecomesLight() {
        says("a HEAVY one LIGHT, if twice its DEGREE is below BOUND");
        RingCounts four = net("+9,1;+9,2;+9,3;+9,4;+20,21;+22,23;+24,25;+26,27");
        due("heavy by rebasing", 1L << 9, four.told(5));
        four.cut(9, 1);
        four.cut(2, 9);
        due("a degree of 2: 4 is not below 4", 1L << 9, four.told(5));
        four.cut(9, 3);
        due("a degree of 1: 2 is below 4", 0, four.told(5));
        due("one move", 1, four.told(6));
        due("carried 1", 1, four.told(7));
        RingCounts three = net("+9,1;+9,2;+9,3;+20,21;+22,23;+24,25");
        due("heavy, bound 3", 1L << 9, three.told(5));
        three.cut(9, 1);
        due("a degree of 2: 4 is not below 3", 1L << 9, three.told(5));
        three.cut(9, 2);
        due("a degree of 1: 2 is below 3", 0, three.told(5));
        RingCounts two = net("+9,1;+9,2;+3,4");
        two.cut(9, 1);
        due("a degree of 1: 2 is not below 2", 1L << 9, two.told(5));
        two.cut(9, 2);
        due("a degree of 0: 0 is below 2", 0, two.told(5));
        due("one move", 1, two.told(6));
        due("carried nothing", 0, two.told(7));
    }

    private static void bothAreLookedAt() {
        says("each time MOVES is 1 more, and CARRIED more by its DEGREE");
        RingCounts net = net("+0,9;+0,1;+0,2;+0,3;+9,4;+9,5;+9,6;+20,21;+22,23;+24,25");
        due("both heavy", bits(0, 9), net.told(5));
        Checks.batch(net, "-0,1;-0,2;-9,4;-9,5");
        due("both heavy with 2 of 4", bits(0, 9), net.told(5));
        net.cut(9, 0);
        due("both light", 0, net.told(5));
        due("two moves", 2, net.told(6));
        due("carried 1 and 1", 2, net.told(7));
        due("no rebase by that", 4, net.told(8));
        says("If it was not REBASED, the EDGE's two VERTICES are looked at");
        // The eighth EDGE gives 0 a DEGREE of 6, which would move it by a BOUND of 4; the net is REBASED, though.
        RingCounts star = net("+0,1;+0,2;+0,3;+10,11;+12,13;+0,4;+0,5;+0,6");
        due("heavy", 1, star.told(5));
        due("by no move", 0, star.told(6));
        due("four rebases", 4, star.told(8));
    }

    private static void wedges() {
        says("WEDGES of two unlike VERTICES: how many LIGHT ones are NEAR both.");
        RingCounts net = net("+7,1;+7,2;+7,3;+9,1;+9,2");
        due("7 is heavy", 1L << 7, net.told(5));
        due("shared 1 2", 2, net.two(1, 2, 0));
        due("9 alone", 1, net.two(1, 2, 1));
        due("7 alone, heavy", 0, net.two(1, 3, 1));
        due("of a heavy one: over 1 and 2", 2, net.two(7, 9, 1));
        due("of one", -1, net.two(7, 7, 1));
        due("none", 0, net.two(30, 31, 1));
    }

    private static void changes() {
        says("CHANGES counts CHANGES.");
        RingCounts net = net("+0,1;+2,3");
        due("two came", 2, net.told(9));
        net.cut(0, 1);
        due("one went", 3, net.told(9));
        net.add(0, 0, 1);
        net.add(2, 3, 1);
        net.cut(0, 1);
        due("refused calls are none", 3, net.told(9));
        net.back(2);
        due("undone ones count too", 5, net.told(9));
        Checks.batch(net, "~0,1;~4,5");
        due("by texts", 7, net.told(9));
    }

    // ---- SWAPPED, and what is told

    private static void swapped() {
        says("the EDGE of u and v goes, that of x and y goes, then one of u and y comes with the WORTH that that of "
            + "u and v had, then one of x and v with that of x and y: four CHANGES");
        RingCounts net = net("+0,1=5;+2,3=6;+4,5;+6,7;-6,7");
        due("3 of 8", 8, net.told(3));
        due("swap", 0, net.swap(0, 1, 2, 3));
        due("u y", 5, net.worth(0, 3));
        due("x v", 6, net.worth(2, 1));
        due("1 of 8: 3; then 3 of 3: 6", 6, net.told(3));
        due("two rebases", 5, net.told(8));
        due("four changes", 9, net.told(9));
        due("nine may go back", 9, net.told(10));
        RingCounts other = net("+0,1=5;+2,3=6");
        due("told the other way round", 0, other.swap(1, 0, 2, 3));
        due("u y", 5, other.worth(1, 3));
        due("x v", 6, other.worth(2, 0));
        says("SWAPPED: how many TRIANGLES there are then.");
        RingCounts three = net("+0,1;+2,3;+0,4;+4,3;+10,11;+11,12;+10,12");
        due("one comes: 0 3 4; one stays", 2, three.swap(0, 1, 2, 3));
        due("told 1", 2, three.told(1));
        due("and back: one stays", 1, three.swap(0, 3, 2, 1));
    }

    private static void swapRefused() {
        says("STATE: an EDGE that would go isn't there, or one that would come is.");
        RingCounts net = net("+0,1=5;+2,3=6;+8,9");
        String before = Checks.lookAt(net);
        due("the first isn't there", -3, net.swap(0, 4, 2, 3));
        due("the second isn't there", -3, net.swap(0, 1, 2, 4));
        due("neither is there", -3, net.swap(4, 5, 6, 7));
        checks.dueText("nothing is changed", before, Checks.lookAt(net));
        net.add(0, 3, 1);
        due("the first that would come is there", -3, net.swap(0, 1, 2, 3));
        net.cut(0, 3);
        net.add(1, 2, 1);
        due("the second that would come is there", -3, net.swap(0, 1, 2, 3));
        net.cut(1, 2);
        net.add(0, 2, 1);
        net.add(1, 3, 1);
        due("others may be there", 0, net.swap(0, 1, 2, 3));
        says("NONE: u, v, x, y (or two of these are one)");
        due("NONE ahead of STATE", -1, net.swap(20, 21, 21, 22));
        due("NONE ahead of STATE", -1, net.swap(20, 21, 22, 40));
    }

    private static void whats() {
        // Of the four VERTICES 0 alone has a DEGREE of 3 as the fourth EDGE comes: it is HEAVY.
        RingCounts net = Checks.whole(4);
        int[] bad = {-1, 15, 100, MIN, MAX};
        says("3 CORE, 4 how many RINGS, 5 how many FOURS have it. NONE: u, what.");
        long[] of = {3, 3, 1, 3, 3, 1, -1};
        for (int what = 0; what < of.length; what++) {
            due("of " + what, of[what], net.of(0, what));
        }
        says("3 whether an EDGE joins them, 4 FAR. NONE: u, v, what.");
        long[] two = {2, 2, 2, 1, 1, -1};
        for (int what = 0; what < two.length; what++) {
            due("two " + what, two[what], net.two(0, 1, what));
        }
        due("none joins them", 0, net.two(0, 4, 3));
        due("no two, no what", -1, net.two(0, 0, 9));
        says("3 how many RINGS, 4 how many FOURS have it. NONE: u, v, what; STATE: there is none.");
        long[] edge = {2, 4, 0, 2, 1, -1};
        for (int what = 0; what < edge.length; what++) {
            due("edge " + what, edge[what], net.edge(0, 1, what));
            due("no edge " + what, what < 5 ? -3 : -1, net.edge(0, 4, what));
        }
        for (int what : bad) {
            due("of " + what, -1, net.of(0, what));
            due("two " + what, -1, net.two(0, 1, what));
            due("edge " + what, -1, net.edge(0, 1, what));
            due("no edge, no what", -1, net.edge(0, 4, what));
        }
        says("12 bytes of THE PAPER, 13 how many FOURS there are. NO.");
        long[] told = {6, 4, 3, 8, 3, 1, 0, 0, 3, 6, 6, 12, 0, 1, NO};
        for (int what = 0; what < told.length; what++) {
            due("told " + what, told[what], net.told(what));
        }
        for (int what : bad) {
            due("told " + what, NO, net.told(what));
        }
    }

    private static void wordsInOrder() {
        says("NONE: u, v; BAD: worth; STATE: there is one.");
        RingCounts net = net("+0,1");
        due("NONE ahead of BAD", -1, net.add(0, 0, 2000001));
        due("NONE ahead of BAD", -1, net.add(40, 1, -2000001));
        due("BAD ahead of STATE", -2, net.add(0, 1, 2000001));
        due("STATE", -3, net.add(0, 1, 2000000));
        says("NONE: u, v; STATE: there is none.");
        due("NONE", -1, net.cut(1, 1));
        due("NONE", -1, net.cut(1, 40));
        due("STATE", -3, net.cut(1, 39));
        due("told 9", 1, net.told(9));
    }

    // ---- as much as 512 calls can ask

    private static void fullest() {
        says("An object is used for at most 512 calls after it has been made");
        RingCounts net = first(500, -2000000);
        // 0 .. 14 are joined with all, 15 with 16 .. 35: as many of three, four and so on can be counted by hand.
        due("triangles", 455 + 105 * 25 + 15 * 20, net.told(1));
        due("fours", 1365 + 455 * 25 + 105 * 20, net.told(13));
        due("heavy: 0 .. 15", (1L << 16) - 1, net.told(5));
        // 1 at a DEGREE of 12 (BOUND 8), 2 at 18 (12), 4 .. 6 at 24 (16), 7 .. 15 at 35 (23); 0 and 3 by rebasing.
        due("moves", 1 + 1 + 3 + 9, net.told(6));
        due("carried", 12 + 18 + 3 * 24 + 9 * 35, net.told(7));
        due("core 16", (1L << 36) - 1, net.core(16));
        due("truss 17: without the edges of 36 .. 39", 440, net.truss(17));
        due("truss 18", 0, net.truss(18));
        int bytes = 499;
        int come = 0;
        for (int u = 0; u < 40; u++) {
            for (int v = u + 1; v < 40 && come < 500; v++) {
                bytes += ("+" + u + "," + v + "=-2000000").length();
                come++;
            }
        }
        due("spell", bytes, net.spell());
        due("the last byte", '0', net.paper(bytes - 1));
        due("no byte", -1, net.paper(bytes));
        due("value", Long.MIN_VALUE + 1, net.value());
    }

    public static void main(String[] args) {
        vertices();
        unlike();
        onceAtMost();
        worths();
        order();
        nearAndDegree();
        manyShared();
        rings();
        fours();
        far();
        spanGrows();
        spanSinks();
        smallSpans();
        rebased();
        rebasedBySinking();
        lightBecomesHeavy();
        heavyBecomesLight();
        bothAreLookedAt();
        wedges();
        changes();
        swapped();
        swapRefused();
        whats();
        wordsInOrder();
        fullest();
        checks.end();
    }
}
