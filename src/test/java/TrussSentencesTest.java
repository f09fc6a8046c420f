/** The sentences of the second of the document's 'Terms', and of promises 11 to 20, each at its edges. */
public final class TrussSentencesTest {
    private static final Checks checks = new Checks("TrussSentencesTest");
    private static final long NO = Long.MIN_VALUE;
    private static final long OVER = Long.MIN_VALUE + 1;
    private static final long ALL = (1L << 40) - 1;
    private static final int MAX = Integer.MAX_VALUE;
    private static final int MIN = Integer.MIN_VALUE;

    private static void says(String words) {
        checks.says(words);
    }

    private static void due(String call, long want, long got) {
        checks.due(call, want, got);
    }

    private static RingCounts net(String batch) {
        return Checks.net(batch);
    }

    private static RingCounts whole(int n) {
        return Checks.whole(n);
    }

    private static long bits(int... vertices) {
        return Checks.bits(vertices);
    }

    /** Each two of so many VERTICES from the first on are joined, as far as they aren't. */
    private static void joinAll(RingCounts net, int... vertices) {
        for (int u : vertices) {
            for (int v : vertices) {
                if (u < v) {
                    net.add(u, v, 1);
                }
            }
        }
    }

    private static RingCounts wholes(int[]... sets) {
        RingCounts net = new RingCounts();
        for (int[] set : sets) {
            joinAll(net, set);
        }
        return net;
    }

    /** 0 and 1 joined with all others and with each other: 77 EDGES, 38 TRIANGLES. */
    private static RingCounts book() {
        RingCounts net = new RingCounts();
        net.add(0, 1, 1);
        for (int v = 2; v < 40; v++) {
            net.add(0, v, 1);
            net.add(v, 1, 1);
        }
        return net;
    }

    /** 1 .. 5 going round, 0 in the middle. */
    private static RingCounts wheel() {
        return net("+1,2;+2,3;+3,4;+4,5;+5,1;+0,1;+0,2;+0,3;+0,4;+0,5");
    }

    /** A TRIANGLE with three WORTHS. */
    private static void triangle(RingCounts net, int u, int v, int w, int first, int second, int third) {
        net.add(u, v, first);
        net.add(u, w, second);
        net.add(v, w, third);
    }

    // ---- TRUSS, PEELING

    private static void trussOfAnEdge() {
        says("TRUSS of an EDGE: the greatest k by which it is in a set of EDGES each of which has k less 2 TRIANGLES "
            + "or more with two others of the set (2 or more, always).");
        due("a lone edge", 2, net("+0,39").edge(39, 0, 1));
        due("one of a path", 2, net("+0,1;+1,2").edge(0, 1, 1));
        for (int n = 3; n < 13; n++) {
            RingCounts net = whole(n);
            due("the first of a whole " + n, n, net.edge(0, 1, 1));
            due("the last of a whole " + n, n, net.edge(n - 1, n - 2, 1));
        }
        RingCounts book = book();
        due("support 38", 38, book.edge(0, 1, 0));
        due("of the set: 3", 3, book.edge(0, 1, 1));
        due("a page", 3, book.edge(0, 39, 1));
        RingCounts four = whole(4);
        four.cut(2, 3);
        due("a whole 4 less an edge", 3, four.edge(0, 1, 1));
        due("a whole 4 less an edge", 3, four.edge(0, 2, 1));
        RingCounts eight = net("+0,1;+0,2;+0,3;+0,4;+5,1;+5,2;+5,3;+5,4;+1,2;+2,3;+3,4;+4,1");
        due("two in each of 12", 4, eight.edge(0, 1, 1));
        due("two in each of 12", 4, eight.edge(2, 3, 1));
        eight.cut(3, 4);
        // 0-3, 0-4, 5-3, 5-4 have one left; 2-3 and 1-4 two, of which each needs two of those four.
        due("all fall by one less", 3, eight.edge(0, 1, 1));
        due("all fall by one less", 3, eight.edge(1, 2, 1));
        RingCounts mixed = wholes(new int[] {5, 6, 7, 8, 9}, new int[] {8, 9, 0}, new int[] {0, 30});
        due("in the whole 5", 5, mixed.edge(8, 9, 1));
        due("in a triangle on it", 3, mixed.edge(0, 9, 1));
        due("a tail", 2, mixed.edge(30, 0, 1));
    }

    private static void trussOfK() {
        says("How many EDGES have a TRUSS of k or more.");
        RingCounts eight = whole(8);
        for (int k : new int[] {MIN, -1, 0, 1, 2, 3, 7, 8}) {
            due("truss " + k, 28, eight.truss(k));
        }
        for (int k : new int[] {9, 10, 40, MAX}) {
            due("truss " + k, 0, eight.truss(k));
        }
        eight.cut(0, 1);
        due("a whole 8 less an edge: 7", 27, eight.truss(7));
        due("a whole 8 less an edge: no 8", 0, eight.truss(8));
        RingCounts five = whole(5);
        five.cut(0, 1);
        due("a whole 5 less an edge: 4", 9, five.truss(4));
        due("a whole 5 less an edge: no 5", 0, five.truss(5));
        RingCounts none = new RingCounts();
        for (int k : new int[] {MIN, 0, 2, MAX}) {
            due("truss " + k + " of none", 0, none.truss(k));
        }
        RingCounts mixed = wholes(new int[] {5, 6, 7, 8, 9}, new int[] {8, 9, 0}, new int[] {0, 30});
        long[] want = {13, 13, 13, 12, 10, 10, 0};
        for (int k = 0; k < want.length; k++) {
            due("truss " + k, want[k], mixed.truss(k));
        }
        mixed.cut(5, 6);
        due("truss 5 behind a cut", 0, mixed.truss(5));
        due("truss 4 behind a cut", 9, mixed.truss(4));
        due("truss of 28 vertices", 378, whole(28).truss(28));
    }

    private static void duePeeling(RingCounts net, int[][] order) {
        for (int i = 0; i < order.length; i++) {
            due("peeled " + i + " 0", order[i][0], net.peeled(i, 0));
            due("peeled " + i + " 1", order[i][1], net.peeled(i, 1));
            due("peeled " + i + " 2", order[i][2], net.peeled(i, 2));
            due("turn of " + order[i][0] + "-" + order[i][1], i, net.edge(order[i][1], order[i][0], 2));
        }
        due("none behind", -1, net.peeled(order.length, 0));
    }

    private static void peeling() {
        says("PEELING: of the EDGES left that with the least SUPPORT by EDGES left goes (of several the earliest), "
            + "until none is left; TURN of an EDGE: when it went (0, 1, ..).");
        // The rim's EDGES are in one TRIANGLE, the others in two: each that goes lowers those that it was with.
        duePeeling(wheel(), new int[][] {{1, 2, 3}, {0, 1, 3}, {1, 5, 3}, {0, 2, 3}, {2, 3, 3}, {0, 3, 3}, {3, 4, 3},
            {0, 4, 3}, {0, 5, 3}, {4, 5, 3}});
        // The whole 4 goes last, though its EDGES are the earliest.
        duePeeling(net("+0,1;+0,2;+0,3;+1,2;+1,3;+2,3;+3,4;+3,5;+4,5;+5,39"), new int[][] {{5, 39, 2}, {3, 4, 3},
            {3, 5, 3}, {4, 5, 3}, {0, 1, 4}, {0, 2, 4}, {0, 3, 4}, {1, 2, 4}, {1, 3, 4}, {2, 3, 4}});
        duePeeling(net("+38,39"), new int[][] {{38, 39, 2}});
        duePeeling(new RingCounts(), new int[][] {});
        RingCounts wheel = wheel();
        due("turn of 4-5", 9, wheel.edge(4, 5, 2));
        wheel.cut(1, 2);
        // As if the first had gone already: all others a turn earlier.
        duePeeling(wheel, new int[][] {{0, 1, 3}, {1, 5, 3}, {0, 2, 3}, {2, 3, 3}, {0, 3, 3}, {3, 4, 3}, {0, 4, 3},
            {0, 5, 3}, {4, 5, 3}});
    }

    private static void peeled() {
        says("what 0 its lesser VERTEX, 1 its greater one, 2 its TRUSS. NONE: i, what.");
        RingCounts net = net("+5,3;+3,9;+9,5");
        int[] bad = {-1, 3, 4, 39, 780, MAX, MIN};
        for (int b : bad) {
            for (int what = 0; what < 3; what++) {
                due("peeled " + b + " " + what, -1, net.peeled(b, what));
            }
            due("peeled 0 " + b, -1, net.peeled(0, b));
            due("peeled 2 " + b, -1, net.peeled(2, b));
        }
        due("the last", 5, net.peeled(2, 0));
        due("the last", 9, net.peeled(2, 1));
        due("the last", 3, net.peeled(2, 2));
        net.cut(3, 5);
        due("the last is the first but one then", -1, net.peeled(2, 0));
        due("its truss", 2, net.peeled(1, 2));
        net.cut(3, 9);
        net.cut(5, 9);
        due("none any more", -1, net.peeled(0, 0));
    }

    // ---- pieces, HOODS

    private static void pieces() {
        says("In how many pieces these EDGES hang together (by VERTICES).");
        due("none", 0, new RingCounts().pieces(2));
        due("none", 0, new RingCounts().pieces(MIN));
        RingCounts one = net("+0,39");
        for (int k : new int[] {MIN, 0, 1, 2}) {
            due("a lone edge by " + k, 1, one.pieces(k));
        }
        due("a lone edge by 3", 0, one.pieces(3));
        due("a lone edge by the most", 0, one.pieces(MAX));
        due("a star with the middle last", 1, net("+39,0;+39,1;+39,2;+39,3").pieces(2));
        due("a star with the middle first", 1, net("+0,10;+0,11;+0,12").pieces(2));
        due("two that cross", 2, net("+0,2;+1,3").pieces(2));
        due("two, one within the other", 2, net("+0,3;+1,2").pieces(2));
        due("three", 3, net("+0,5;+1,4;+2,3").pieces(2));
        due("three in one", 1, net("+0,5;+1,4;+0,4").pieces(2));
        due("to and fro", 1, net("+0,39;+39,1;+1,38;+38,2;+2,37;+37,3").pieces(2));
        RingCounts most = new RingCounts();
        RingCounts path = new RingCounts();
        for (int v = 0; v < 39; v++) {
            path.add(v, v + 1, 1);
            if (v % 2 == 0) {
                most.add(v, v + 1, 1);
            }
        }
        due("the most", 20, most.pieces(2));
        due("the longest", 1, path.pieces(2));
        path.cut(19, 20);
        due("the longest cut", 2, path.pieces(2));
        RingCounts vertex = wholes(new int[] {0, 1, 2}, new int[] {2, 3, 4});
        due("two triangles by a vertex", 1, vertex.pieces(3));
        RingCounts bridge = wholes(new int[] {0, 1, 2, 3}, new int[] {3, 4}, new int[] {4, 5, 6, 7});
        due("by a bridge", 1, bridge.pieces(2));
        due("without the bridge", 2, bridge.pieces(3));
        due("without the bridge", 2, bridge.pieces(4));
        due("by 5", 0, bridge.pieces(5));
        RingCounts unlike = wholes(new int[] {0, 1, 2, 3}, new int[] {20, 21, 22}, new int[] {30, 31});
        due("by 2", 3, unlike.pieces(2));
        due("by 3", 2, unlike.pieces(3));
        due("by 4", 1, unlike.pieces(4));
    }

    private static void hoodOfAnEdge() {
        says("the EDGES that one comes to from it by any number of steps (none, too), each from an EDGE to another one "
            + "of a TRIANGLE whose three EDGES all have a TRUSS of k or more.");
        RingCounts byEdge = wholes(new int[] {0, 1, 2, 3}, new int[] {2, 3, 4, 5});
        due("two whole 4 by an edge", 11, byEdge.hood(0, 1, 4));
        due("two whole 4 by an edge", 11, byEdge.hood(5, 4, 4));
        RingCounts byVertex = wholes(new int[] {0, 1, 2, 3}, new int[] {3, 4, 5, 6});
        due("two whole 4 by a vertex", 6, byVertex.hood(0, 1, 4));
        due("two whole 4 by a vertex", 6, byVertex.hood(3, 6, 4));
        due("two whole 4 by a vertex", 6, byVertex.hood(3, 6, 2));
        byVertex.add(2, 4, 1);
        due("all three need it: 2-4 has 3", 6, byVertex.hood(2, 3, 4));
        due("all three need it: 2-4 has 3", 6, byVertex.hood(3, 4, 4));
        due("all three have 3", 13, byVertex.hood(2, 3, 3));
        due("all three have 3", 13, byVertex.hood(4, 2, 3));
        // A row of TRIANGLES v, v+1, v+2: the last EDGE is many steps from the first.
        RingCounts row = new RingCounts();
        for (int v = 0; v < 39; v++) {
            row.add(v, v + 1, 1);
            if (v < 38) {
                row.add(v, v + 2, 1);
            }
        }
        due("any number of steps", 77, row.hood(0, 1, 3));
        due("any number of steps", 77, row.hood(38, 39, 3));
        row.cut(20, 21);
        due("cut in two", 2 * 20 - 1, row.hood(0, 1, 3));
        due("none", 1, net("+7,8;+8,9").hood(7, 8, 2));
        says("an EDGE in no TRIANGLE is one by itself.");
        RingCounts tail = net("+0,1;+1,2;+0,2;+2,3;+3,4");
        for (int k : new int[] {MIN, -1, 0, 1, 2}) {
            due("a tail by " + k, 1, tail.hood(2, 3, k));
            due("another by " + k, 1, tail.hood(4, 3, k));
            due("the triangle by " + k, 3, tail.hood(0, 1, k));
            due("hoods by " + k, 3, tail.hoods(k));
        }
    }

    private static void hoodRefused() {
        says("How many EDGES are in the HOOD of an EDGE by k (0: its TRUSS is below k). NONE: u, v; STATE: there is no "
            + "EDGE.");
        RingCounts net = net("+0,1;+1,2;+0,2;+2,3");
        due("below 3", 0, net.hood(2, 3, 3));
        due("just 3", 3, net.hood(2, 1, 3));
        due("below 4", 0, net.hood(2, 1, 4));
        due("below the most", 0, net.hood(2, 1, MAX));
        due("no edge", -3, net.hood(0, 3, 2));
        due("no edge, nor by much", -3, net.hood(0, 3, MAX));
        due("no two", -1, net.hood(3, 3, MAX));
        due("no two", -1, net.hood(3, 40, 2));
        due("no two", -1, net.hood(-1, 3, 2));
        net.cut(0, 1);
        due("gone", -3, net.hood(0, 1, 2));
        due("its truss is less now", 0, net.hood(2, 1, 3));
        due("by 2", 1, net.hood(2, 1, 2));
    }

    private static void hoods() {
        says("Into how many HOODS by k all EDGES with a TRUSS of k or more fall.");
        due("none", 0, new RingCounts().hoods(2));
        due("none", 0, new RingCounts().hoods(MIN));
        due("none", 0, new RingCounts().hoods(MAX));
        RingCounts byVertex = wholes(new int[] {0, 1, 2, 3}, new int[] {3, 4, 5, 6});
        for (int k : new int[] {MIN, 2, 3, 4}) {
            due("two whole 4 by a vertex", 2, byVertex.hoods(k));
            due("one piece", 1, byVertex.pieces(k));
        }
        due("by 5", 0, byVertex.hoods(5));
        byVertex.add(2, 4, 1);
        due("tied by 3", 1, byVertex.hoods(3));
        due("not by 4", 2, byVertex.hoods(4));
        RingCounts star = net("+0,1;+0,2;+0,3;+0,39");
        due("each by itself", 4, star.hoods(2));
        due("none by 3", 0, star.hoods(3));
        RingCounts triangles = new RingCounts();
        for (int v = 0; v < 39; v += 3) {
            joinAll(triangles, v, v + 1, v + 2);
        }
        due("13 by 3", 13, triangles.hoods(3));
        triangles.add(0, 39, 1);
        due("14 by 2", 14, triangles.hoods(2));
        due("13 by 3", 13, triangles.hoods(3));
    }

    // ---- CORE, CLOSED, VALUE

    private static void cores() {
        says("CORE of a VERTEX: the greatest k by which it is in a set of VERTICES each of which has k or more NEAR it "
            + "that are in the set.");
        due("with none", 0, new RingCounts().of(0, 3));
        RingCounts star = new RingCounts();
        for (int v = 1; v < 40; v++) {
            star.add(0, v, 1);
        }
        due("degree 39", 39, star.of(0, 0));
        due("core 1", 1, star.of(0, 3));
        due("core 1", 1, star.of(39, 3));
        star.cut(0, 39);
        due("core 1 is none, as its edge is gone", 0, star.of(39, 3));
        RingCounts round = new RingCounts();
        for (int v = 0; v < 40; v++) {
            round.add(v, (v + 1) % 40, 1);
        }
        due("all of a round", 2, round.of(20, 3));
        due("all of a round", ALL, round.core(2));
        due("none by 3", 0, round.core(3));
        round.cut(39, 0);
        due("of a path", 1, round.of(20, 3));
        due("of a path", 0, round.core(2));
        due("of a path", ALL, round.core(1));
        RingCounts three = net("+0,3;+0,4;+0,5;+1,3;+1,4;+1,5;+2,3;+2,4;+2,5;+5,6;+6,7");
        due("three by three", 3, three.of(5, 3));
        due("a tail", 1, three.of(6, 3));
        due("without one", 0, three.of(8, 3));
        three.cut(0, 3);
        due("three by three less one", 2, three.of(5, 3));
        for (int n = 2; n < 13; n++) {
            due("a whole " + n, n - 1, whole(n).of(n - 1, 3));
        }
        due("book", 2, book().of(0, 3));
    }

    private static void coreOfK() {
        says("The VERTICES with a CORE of k or more (bits).");
        RingCounts none = new RingCounts();
        RingCounts net = wholes(new int[] {0, 1, 2, 3}, new int[] {3, 4, 39}, new int[] {39, 30}, new int[] {10, 11});
        for (int k : new int[] {MIN, -1, 0}) {
            due("all by " + k, ALL, net.core(k));
            due("all of none by " + k, ALL, none.core(k));
        }
        due("none by 1", 0, none.core(1));
        due("by 1", bits(0, 1, 2, 3, 4, 39, 30, 10, 11), net.core(1));
        due("by 2", bits(0, 1, 2, 3, 4, 39), net.core(2));
        due("by 3", bits(0, 1, 2, 3), net.core(3));
        for (int k : new int[] {4, 39, 40, 41, MAX}) {
            due("none by " + k, 0, net.core(k));
        }
        RingCounts most = whole(30);
        due("30 by 29", (1L << 30) - 1, most.core(29));
        due("none by 30", 0, most.core(30));
    }

    private static void closed() {
        says("CLOSED of a VERTEX: how many TRIANGLES have it, by how many twos of those NEAR it there are; CLOSED of "
            + "the net: three times how many TRIANGLES there are, by how many twos of those NEAR a VERTEX there are, "
            + "of all VERTICES: fractions in lowest terms.");
        RingCounts book = book();
        due("38 of 741", 2, book.closed(0, 0));
        due("38 of 741", 39, book.closed(0, 1));
        due("a page: 1 of 1", 1, book.closed(39, 0));
        due("a page: 1 of 1", 1, book.closed(39, 1));
        due("114 of 1520", 3, book.closed(-1, 0));
        due("114 of 1520", 40, book.closed(-1, 1));
        RingCounts six = whole(6);
        due("all: 10 of 10", 1, six.closed(5, 0));
        due("all: 10 of 10", 1, six.closed(5, 1));
        due("all: 60 of 60", 1, six.closed(-1, 0));
        due("all: 60 of 60", 1, six.closed(-1, 1));
        RingCounts open = net("+0,1;+0,2;+0,3;+0,4");
        due("none of 6", 0, open.closed(0, 0));
        due("none of 6 in lowest terms", 1, open.closed(0, 1));
        due("none of 6", 0, open.closed(-1, 0));
        due("none of 6 in lowest terms", 1, open.closed(-1, 1));
        RingCounts kite = net("+0,1;+0,2;+1,2;+0,3;+1,3;+0,4");
        due("2 of 6", 1, kite.closed(0, 0));
        due("2 of 6", 3, kite.closed(0, 1));
        due("2 of 3", 2, kite.closed(1, 0));
        due("2 of 3", 3, kite.closed(1, 1));
        due("6 of 11", 6, kite.closed(-1, 0));
        due("6 of 11", 11, kite.closed(-1, 1));
        says("CLOSED of a VERTEX (u -1: of the net): part 0 above, 1 below the line. NO: u, part; there are no such "
            + "twos.");
        for (int bad : new int[] {-2, 40, 41, MIN, MAX}) {
            due("of " + bad, NO, kite.closed(bad, 0));
            due("of " + bad, NO, kite.closed(bad, 1));
        }
        for (int bad : new int[] {-1, 2, 3, MIN, MAX}) {
            due("part " + bad, NO, kite.closed(0, bad));
            due("part " + bad, NO, kite.closed(-1, bad));
        }
        for (int part = 0; part < 2; part++) {
            due("no twos of a degree of 1", NO, kite.closed(4, part));
            due("no twos of a degree of 0", NO, kite.closed(5, part));
            due("no twos in a net of none", NO, new RingCounts().closed(-1, part));
            due("no twos in a net of lone edges", NO, net("+0,1;+2,3;+38,39").closed(-1, part));
        }
    }

    private static void valueAtTheEnds() {
        says("VALUE: of TRIANGLES by their least VERTEX, then the next, then the greatest: the three WORTHS one times "
            + "another, added up; OVER, if one so far can't be a long.");
        for (int sign = -1; sign <= 1; sign += 2) {
            RingCounts net = new RingCounts();
            due("none", 0, net.value());
            triangle(net, 0, 1, 2, sign * 2000000, 2000000, 2000000);
            due("the most of one", sign * 8000000000000000000L, net.value());
            triangle(net, 3, 4, 5, 2000000, sign * 2000000, 305843);
            due("of two", sign * 9223372000000000000L, net.value());
            triangle(net, 6, 7, 8, 2000000, 18427, sign);
            due("of three", sign * 9223372036854000000L, net.value());
            triangle(net, 9, 10, 11, sign > 0 ? 775807 : -775808, 1, 1);
            due("just a long", sign > 0 ? Long.MAX_VALUE : Long.MIN_VALUE, net.value());
            triangle(net, 12, 13, 14, 0, 2000000, 2000000);
            due("and 0", sign > 0 ? Long.MAX_VALUE : Long.MIN_VALUE, net.value());
            triangle(net, 15, 16, 17, -sign, 2, 1);
            due("2 less", sign > 0 ? Long.MAX_VALUE - 2 : Long.MIN_VALUE + 2, net.value());
            triangle(net, 18, 19, 20, sign, 2, 1);
            due("2 more", sign > 0 ? Long.MAX_VALUE : Long.MIN_VALUE, net.value());
            triangle(net, 21, 22, 23, sign, 1, 1);
            due("one more can't be a long", OVER, net.value());
            triangle(net, 24, 25, 26, -sign, 1, 1);
            due("nor does it come back", OVER, net.value());
            net.cut(21, 22);
            due("without it", sign > 0 ? Long.MAX_VALUE - 1 : Long.MIN_VALUE + 1, net.value());
        }
        RingCounts net = net("+0,1=2;+0,2=3;+1,2=5;+0,3=7;+1,3=11;+2,3=13");
        due("four of four", 30 + 154 + 273 + 715, net.value());
        for (int[] two : new int[][] {{1, 3, 30 + 273}, {0, 2, 0}, {0, 1, 0}}) {
            net.cut(two[0], two[1]);
            due("an edge that is gone is in none", two[2], net.value());
        }
    }

    private static void valueInOrder() {
        says("VALUE: of TRIANGLES by their least VERTEX, then the next, then the greatest");
        int most = 2000000;
        RingCounts next = new RingCounts();
        triangle(next, 0, 1, 9, most, most, most);
        next.add(0, 10, most);
        next.add(1, 10, -most);
        triangle(next, 0, 2, 3, most, most, most);
        due("+ 0 1 9, - 0 1 10, + 0 2 3", 8000000000000000000L, next.value());
        RingCounts greatest = new RingCounts();
        triangle(greatest, 0, 1, 10, most, most, most);
        triangle(greatest, 0, 2, 3, most, most, most);
        greatest.add(0, 4, most);
        greatest.add(2, 4, -most);
        due("+ 0 1 10, + 0 2 3, - 0 2 4", OVER, greatest.value());
        RingCounts least = new RingCounts();
        triangle(least, 0, 8, 9, most, most, most);
        triangle(least, 1, 2, 3, most, most, most);
        triangle(least, 4, 5, 6, -most, most, most);
        due("+ 0 8 9, + 1 2 3, - 4 5 6", OVER, least.value());
        RingCounts between = new RingCounts();
        triangle(between, 0, 8, 9, most, most, most);
        triangle(between, 1, 2, 3, -most, most, most);
        triangle(between, 4, 5, 6, most, most, most);
        due("+ 0 8 9, - 1 2 3, + 4 5 6", 8000000000000000000L, between.value());
        says("VALUE is OVER, if a product of two or of three WORTHS, or a sum so far, can't be a long.");
        due("no product of three is", -8000000000000000000L, net("+0,1=-2000000;+0,2=-2000000;+1,2=-2000000").value());
        RingCounts cut = net("+0,1=5;+0,2=7;+1,2=11");
        due("of one", 385, cut.value());
        cut.cut(1, 2);
        due("its edge is gone", 0, cut.value());
        cut.add(1, 2, -3);
        due("with its new worth", -105, cut.value());
        cut.add(1, 3, 0);
        cut.add(2, 3, 9);
        due("and 0", -105, cut.value());
    }

    // ---- BROKEN, FEWEST

    private static void broken() {
        says("BROKEN: as long as there are TRIANGLES, the EDGE with the greatest SUPPORT by EDGES left goes (of "
            + "several the earliest); nothing of it stays.");
        RingCounts wheel = wheel();
        // 0-1 goes, then 0-3, which has two yet, then 0-4.
        due("a wheel", 3, wheel.broken(0));
        due("a wheel's first", 0, wheel.broken(1));
        due("a wheel's first", 1, wheel.broken(2));
        RingCounts greedy = net("+0,1;+0,2;+1,2;+0,3;+1,3;+0,4;+1,4;+0,5;+2,5;+0,6;+2,6;+0,7;+3,7;+0,8;+3,8;+0,9;+4,9"
            + ";+0,10;+4,10");
        due("one more than need be", 4, greedy.broken(0));
        due("fewer would do", 3, greedy.fewest());
        String before = Checks.lookAt(greedy);
        due("again", 4, greedy.broken(0));
        due("its first", 0, greedy.broken(1));
        due("its first", 1, greedy.broken(2));
        checks.dueText("nothing of it stays", before, Checks.lookAt(greedy));
        RingCounts apart = wholes(new int[] {5, 6, 7}, new int[] {1, 2, 3}, new int[] {37, 38, 39});
        due("three apart", 3, apart.broken(0));
        due("the earliest", 1, apart.broken(1));
        due("the earliest", 2, apart.broken(2));
        joinAll(apart, 38, 39, 30);
        due("the greatest support", 38, apart.broken(1));
        due("the greatest support", 39, apart.broken(2));
        due("as many", 3, apart.broken(0));
        due("of a book", 1, book().broken(0));
        // 0-1 breaks two of the four, 2-3 has the other two then.
        due("of a whole 4", 2, whole(4).broken(0));
        due("of a whole 3", 1, whole(3).broken(0));
        says("what 0 how many EDGES went, 1 the lesser, 2 the greater VERTEX of the first of these (-5: none). NONE.");
        for (RingCounts none : new RingCounts[] {new RingCounts(), net("+0,1;+1,2;+2,3;+3,0")}) {
            due("none", 0, none.broken(0));
            due("none", -5, none.broken(1));
            due("none", -5, none.broken(2));
            due("none", -1, none.broken(3));
        }
        for (int bad : new int[] {-1, 3, 4, MIN, MAX}) {
            due("broken " + bad, -1, wheel.broken(bad));
        }
        wheel.cut(0, 1);
        wheel.cut(0, 3);
        wheel.cut(0, 4);
        due("none any more", 0, wheel.broken(0));
        due("none any more", -5, wheel.broken(1));
        due("none any more", -5, wheel.broken(2));
    }

    private static void fewest() {
        says("FEWEST: the fewest EDGES of which each TRIANGLE has one (-5, if these are more than 4).");
        due("none", 0, new RingCounts().fewest());
        due("without triangles", 0, net("+0,1;+1,2;+2,3;+3,0").fewest());
        due("of a triangle", 1, whole(3).fewest());
        due("of a book", 1, book().fewest());
        due("of a whole 4", 2, whole(4).fewest());
        due("of a wheel", 3, wheel().fewest());
        due("of a whole 5", 4, whole(5).fewest());
        due("of a whole 6: 6", -5, whole(6).fewest());
        due("of a whole 30", -5, whole(30).fewest());
        RingCounts fours = wholes(new int[] {0, 1, 2, 3}, new int[] {36, 37, 38, 39});
        due("of two whole 4", 4, fours.fewest());
        joinAll(fours, 3, 4, 5);
        due("and of a triangle: 5", -5, fours.fewest());
        fours.cut(4, 5);
        due("and without it", 4, fours.fewest());
        fours.cut(0, 1);
        due("and less an edge", 3, fours.fewest());
        RingCounts books = new RingCounts();
        for (int i = 0; i < 5; i++) {
            due("books", i, books.fewest());
            for (int v = 20; v < 30; v++) {
                books.add(2 * i, v, 1);
                books.add(2 * i + 1, v, 1);
            }
            books.add(2 * i, 2 * i + 1, 1);
        }
        due("five books", -5, books.fewest());
        books.cut(8, 9);
        due("four books", 4, books.fewest());
    }

    public static void main(String[] args) {
        trussOfAnEdge();
        trussOfK();
        peeling();
        peeled();
        pieces();
        hoodOfAnEdge();
        hoodRefused();
        hoods();
        cores();
        coreOfK();
        closed();
        valueAtTheEnds();
        valueInOrder();
        broken();
        fewest();
        checks.end();
    }
}
