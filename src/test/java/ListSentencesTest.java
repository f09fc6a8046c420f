/** The sentences of the fourth of the document's 'Terms', of 'Answers', and of promises 29 to 36, at their edges. */
public final class ListSentencesTest {
    private static final Checks checks = new Checks("ListSentencesTest");
    private static final long NO = Long.MIN_VALUE;
    private static final int MAX = Integer.MAX_VALUE;
    private static final int MIN = Integer.MIN_VALUE;
    private static final int NOTHING = -11, CAST = -12, BEYOND = -13, BELOW = -14;
    private static final int[] NO_LISTS = {-1, 6, 7, MIN, MAX};

    private static void says(String words) {
        checks.says(words);
    }

    private static void due(String call, long want, long got) {
        checks.due(call, want, got);
    }

    private static RingCounts net(String batch) {
        return Checks.net(batch);
    }

    private static long bits(int... vertices) {
        return Checks.bits(vertices);
    }

    private static void dueRow(RingCounts net, int list, long... row) {
        for (int i = 0; i < row.length; i++) {
            due("get " + list + " " + i, row[i], net.get(list, i));
        }
        due("get " + list + " behind the row", NO, net.get(list, row.length));
    }

    /** A net with a LIST that holds 1, 2, .. n. */
    private static RingCounts counting(int list, int n) {
        RingCounts net = new RingCounts();
        count(net, list, n);
        return net;
    }

    private static void count(RingCounts net, int list, int n) {
        net.list(list, n);
        for (int i = 0; i < n; i++) {
            net.set(list, i, i + 1);
        }
    }

    // ---- rows

    private static void nothingAtFirst() {
        says("LISTS 0 .. 5 hold nothing (at first), or a row of 0 .. 60");
        RingCounts net = new RingCounts();
        for (int list = 0; list < 6; list++) {
            due("get", NO, net.get(list, 0));
            due("set", NOTHING, net.set(list, 0, 1));
            due("move in itself", NOTHING, net.move(list, 0, list, 0, 0));
            due("lay", NOTHING, net.lay(list, 0, 0));
            due("judge", NOTHING, net.judge(list, 0, 0));
        }
        for (int list = 0; list < 6; list++) {
            due("a row of 0", 1, net.list(list, 0));
            due("no place", NO, net.get(list, 0));
            due("no place", BEYOND, net.set(list, 0, 1));
            due("move none", 0, net.move(list, 0, list, 0, 0));
            due("lay", BEYOND, net.lay(list, 0, 0));
            due("judge", 100, net.judge(list, 0, 0));
            due("a row of 60", 1, net.list(list, 60));
            due("its last place", 1, net.set(list, 59, list + 7));
            due("its last place", list + 7, net.get(list, 59));
            due("no place", BEYOND, net.set(list, 60, 1));
            due("no place", NO, net.get(list, 60));
        }
        for (int list = 0; list < 6; list++) {
            due("each has its own", list + 7, net.get(list, 59));
        }
    }

    private static void sizes() {
        says("A LIST becomes a row of n, all 0: 1. NONE: list; BAD: n above 60; BELOW.");
        for (int list = 0; list < 6; list++) {
            RingCounts net = new RingCounts();
            due("61", -2, net.list(list, 61));
            due("the most", -2, net.list(list, MAX));
            due("-1", BELOW, net.list(list, -1));
            due("the least", BELOW, net.list(list, MIN));
            due("it holds nothing yet", NOTHING, net.set(list, 0, 1));
            due("3", 1, net.list(list, 3));
            dueRow(net, list, 0, 0, 0);
            net.set(list, 0, 5);
            net.set(list, 2, 6);
            due("61", -2, net.list(list, 61));
            due("-1", BELOW, net.list(list, -1));
            dueRow(net, list, 5, 0, 6);
            due("3 again", 1, net.list(list, 3));
            dueRow(net, list, 0, 0, 0);
            net.set(list, 2, 6);
            due("1", 1, net.list(list, 1));
            dueRow(net, list, 0);
            due("4", 1, net.list(list, 4));
            dueRow(net, list, 0, 0, 0, 0);
        }
        RingCounts net = new RingCounts();
        for (int bad : NO_LISTS) {
            due("list " + bad, -1, net.list(bad, 3));
            due("NONE ahead of BAD", -1, net.list(bad, 61));
            due("NONE ahead of BELOW", -1, net.list(bad, -1));
        }
    }

    private static void sorts() {
        says("Place i of a LIST becomes v (of ints: its lowest 32 bits): 1. NONE; NOTHING; BEYOND.");
        RingCounts net = new RingCounts();
        long[] vs = {0, -1, MAX, MIN, MAX + 1L, MIN - 1L, 1L << 32, (1L << 32) + 5, (1L << 32) - 1, Long.MAX_VALUE,
            Long.MIN_VALUE, Long.MIN_VALUE + 1};
        long[] ints = {0, -1, MAX, MIN, MIN, MAX, 0, 5, -1, -1, 0, 1};
        for (int list = 0; list < 6; list++) {
            net.list(list, vs.length);
            for (int i = 0; i < vs.length; i++) {
                due("set " + list + " to " + vs[i], 1, net.set(list, i, vs[i]));
            }
            dueRow(net, list, list < 4 ? ints : vs);
        }
        RingCounts other = counting(3, 5);
        due("the middle", 1, other.set(3, 2, 9));
        dueRow(other, 3, 1, 2, 9, 4, 5);
        for (int bad : new int[] {-1, 5, 6, 60, MIN, MAX}) {
            due("set " + bad, BEYOND, other.set(3, bad, 7));
            due("NOTHING ahead of BEYOND", NOTHING, other.set(2, bad, 7));
            due("get " + bad, NO, other.get(3, bad));
            due("get of nothing", NO, other.get(2, bad));
        }
        for (int bad : NO_LISTS) {
            due("set in " + bad, -1, other.set(bad, 0, 7));
            due("NONE ahead of BEYOND", -1, other.set(bad, -1, 7));
        }
        dueRow(other, 3, 1, 2, 9, 4, 5);
        says("LISTS 0 .. 3 of ints, 4 and 5 of longs");
        for (int list = 0; list < 6; list++) {
            RingCounts one = counting(list, 1);
            one.list(0, 1);
            one.list(5, 1);
            due("set " + list, 1, one.set(list, 0, 1L << 31));
            due("get " + list, list < 4 ? MIN : 1L << 31, one.get(list, 0));
            due("to ints", list < 4 ? 1 : CAST, one.move(list, 0, 0, 0, 1));
            due("to longs", list < 4 ? CAST : 1, one.move(list, 0, 5, 0, 1));
        }
        says("Place i of a LIST. NO: no such LIST, nothing there, no such place.");
        for (int bad : NO_LISTS) {
            due("get of " + bad, NO, other.get(bad, 0));
        }
        due("nothing there", NO, other.get(0, 0));
        due("no such place", NO, other.get(3, 5));
        due("the last", 5, other.get(3, 4));
    }

    // ---- move

    private static void move() {
        says("n places of a LIST from i on come to another one (or the same) from j on, as they all were before: n.");
        RingCounts net = counting(0, 5);
        net.list(1, 4);
        due("some", 2, net.move(0, 3, 1, 1, 2));
        dueRow(net, 1, 0, 4, 5, 0);
        dueRow(net, 0, 1, 2, 3, 4, 5);
        due("to the end", 4, net.move(0, 0, 1, 0, 4));
        dueRow(net, 1, 1, 2, 3, 4);
        due("none", 0, net.move(0, 1, 1, 2, 0));
        due("none, at both ends", 0, net.move(0, 5, 1, 4, 0));
        dueRow(net, 1, 1, 2, 3, 4);
        due("a place up in the same", 4, net.move(0, 0, 0, 1, 4));
        dueRow(net, 0, 1, 1, 2, 3, 4);
        count(net, 0, 5);
        due("a place down in the same", 4, net.move(0, 1, 0, 0, 4));
        dueRow(net, 0, 2, 3, 4, 5, 5);
        count(net, 0, 5);
        due("two up in the same", 3, net.move(0, 0, 0, 2, 3));
        dueRow(net, 0, 1, 2, 1, 2, 3);
        due("all to itself", 5, net.move(0, 0, 0, 0, 5));
        dueRow(net, 0, 1, 2, 1, 2, 3);
        RingCounts most = counting(4, 60);
        most.set(4, 0, Long.MIN_VALUE);
        most.set(4, 59, Long.MAX_VALUE);
        most.list(5, 60);
        due("60 longs", 60, most.move(4, 0, 5, 0, 60));
        due("the first", Long.MIN_VALUE, most.get(5, 0));
        due("the last", Long.MAX_VALUE, most.get(5, 59));
        due("one to the other end", 1, most.move(4, 59, 4, 0, 1));
        due("there", Long.MAX_VALUE, most.get(4, 0));
    }

    private static void moveRefused() {
        says("NONE: lists; NOTHING; CAST; BEYOND: n, i or j is below 0, or beyond either's end.");
        RingCounts net = counting(0, 5);
        count(net, 1, 3);
        count(net, 4, 5);
        int[][] beyond = {{-1, 0, 1}, {0, -1, 1}, {0, 0, -1}, {-1, -1, -1}, {MIN, 0, 0}, {0, MIN, 0}, {0, 0, MIN},
            {0, 0, 4}, {3, 0, 3}, {0, 1, 3}, {0, 3, 1}, {5, 0, 1}, {6, 0, 0}, {0, 4, 0}, {MAX, 0, 0}, {0, MAX, 0},
            {MAX, 0, 1}, {0, MAX, 1}, {0, 0, MAX}, {1, 1, MAX}, {MAX, 0, MAX}, {0, MAX, MAX}, {MAX, MAX, MAX},
            {MIN, 0, MIN}, {MAX, MAX, MIN}, {4, 0, MAX - 3}, {2, 1, MAX - 1}, {-2, 0, 3}};
        for (int[] b : beyond) {
            due("move 0 " + b[0] + " to 1 " + b[1] + " " + b[2], BEYOND, net.move(0, b[0], 1, b[1], b[2]));
        }
        dueRow(net, 0, 1, 2, 3, 4, 5);
        dueRow(net, 1, 1, 2, 3);
        int[][] itself = {{0, 1, 5}, {1, 0, 5}, {0, 0, 6}, {5, 5, 1}, {-1, 0, 2}, {0, -1, 2}, {6, 0, 0}, {0, 6, 0}};
        for (int[] b : itself) {
            due("move 0 " + b[0] + " to 0 " + b[1] + " " + b[2], BEYOND, net.move(0, b[0], 0, b[1], b[2]));
        }
        dueRow(net, 0, 1, 2, 3, 4, 5);
        due("ints to longs", CAST, net.move(0, 0, 4, 0, 1));
        due("longs to ints", CAST, net.move(4, 0, 0, 0, 1));
        due("none of them", CAST, net.move(0, 0, 4, 0, 0));
        due("CAST ahead of BEYOND", CAST, net.move(0, -1, 4, 0, 1));
        due("CAST ahead of BEYOND", CAST, net.move(4, 0, 0, 0, MAX));
        due("from nothing", NOTHING, net.move(2, 0, 0, 0, 1));
        due("to nothing", NOTHING, net.move(0, 0, 2, 0, 1));
        due("NOTHING ahead of CAST", NOTHING, net.move(2, 0, 4, 0, 1));
        due("NOTHING ahead of CAST", NOTHING, net.move(0, 0, 5, 0, 1));
        due("NOTHING ahead of BEYOND", NOTHING, net.move(2, -1, 0, 0, 1));
        for (int bad : NO_LISTS) {
            due("from " + bad, -1, net.move(bad, 0, 0, 0, 1));
            due("to " + bad, -1, net.move(0, 0, bad, 0, 1));
            due("NONE ahead of NOTHING", -1, net.move(2, 0, bad, 0, 1));
            due("NONE ahead of NOTHING", -1, net.move(bad, 0, 2, 0, 1));
            due("NONE ahead of BEYOND", -1, net.move(bad, -1, 0, 0, 1));
        }
        dueRow(net, 0, 1, 2, 3, 4, 5);
        dueRow(net, 4, 1, 2, 3, 4, 5);
    }

    // ---- FIGURES

    /** 0-1, 0-2, 0-3, 1-2, 1-3 and the tail 3-39: a RING 0-2-1-3, two TRIANGLES. */
    private static RingCounts kite() {
        return net("+0,1=5;+0,2;+0,3;+1,2;+1,3;+3,39");
    }

    private static final long[][] FIGURES = {{3, 3, 2, 3}, {2, 2, 1, 1}, {2, 2, 2, 2}, {1, 1, 1, 1}};
    private static final long[] FIGURES_OF_39 = {1, 0, 1, 0};

    private static void figures() {
        says("FIGURES of a sort, VERTEX by VERTEX: 0 DEGREES, 1 how many TRIANGLES have each, 2 CORES, 3 how many "
            + "RINGS have each.");
        for (int sort = 0; sort < 4; sort++) {
            RingCounts net = kite();
            net.list(sort, 40);
            due("lay", 40, net.lay(sort, 0, sort));
            for (int v = 0; v < 40; v++) {
                long figure = v < 4 ? FIGURES[sort][v] : v == 39 ? FIGURES_OF_39[sort] : 0;
                due("figure " + sort + " of " + v, figure, net.get(sort, v));
            }
        }
        RingCounts cut = kite();
        cut.list(4, 40);
        for (int sort = 0; sort < 4; sort++) {
            cut.lay(4, 0, sort);
        }
        Checks.batch(cut, "*0;*3");
        for (int sort = 0; sort < 4; sort++) {
            due("lay", 40, cut.lay(4, 0, sort));
            due("figure of 0 as it has none", 0, cut.get(4, 0));
            due("figure of 39 as it has none", 0, cut.get(4, 39));
        }
        RingCounts most = Checks.whole(20);
        long[] each = {19, 171, 19, 19 * 18 * 17 / 2};
        for (int sort = 0; sort < 4; sort++) {
            most.list(4, 40);
            due("lay", 40, most.lay(4, 0, sort));
            due("figure of 0", each[sort], most.get(4, 0));
            due("figure of 19", each[sort], most.get(4, 19));
            due("figure of 20", 0, most.get(4, 20));
        }
        says("NONE: list, sort; NOTHING; BEYOND: not all were (those that had a place are there all the same; none, if "
            + "i is below 0).");
        RingCounts net = kite();
        net.list(0, 45);
        for (int bad : new int[] {-1, 4, 5, MIN, MAX}) {
            due("lay sort " + bad, -1, net.lay(0, 0, bad));
            due("NONE ahead of NOTHING", -1, net.lay(1, 0, bad));
            due("NONE ahead of BEYOND", -1, net.lay(0, -1, bad));
        }
        for (int bad : NO_LISTS) {
            due("lay into " + bad, -1, net.lay(bad, 0, 0));
        }
        due("NOTHING", NOTHING, net.lay(1, 0, 0));
        due("NOTHING ahead of BEYOND", NOTHING, net.lay(1, -1, 0));
        due("nothing was laid", 0, net.get(0, 0));
    }

    private static void laid() {
        says("LAID into a LIST from a place on: FIGURES, until a place isn't there.");
        RingCounts net = kite();
        net.list(4, 45);
        net.set(4, 4, 77);
        due("just to the end", 40, net.lay(4, 5, 0));
        due("what is ahead stays", 77, net.get(4, 4));
        due("the first", 3, net.get(4, 5));
        due("the last", 1, net.get(4, 44));
        count(net, 4, 45);
        due("one is left", BEYOND, net.lay(4, 6, 0));
        due("what is ahead stays", 6, net.get(4, 5));
        due("the first", 3, net.get(4, 6));
        due("the last but one", 0, net.get(4, 44));
        count(net, 4, 45);
        due("what is behind stays", 40, net.lay(4, 0, 2));
        due("the last", 1, net.get(4, 39));
        due("what is behind stays", 41, net.get(4, 40));
        count(net, 4, 3);
        due("one has a place", BEYOND, net.lay(4, 2, 0));
        dueRow(net, 4, 1, 2, 3);
        due("one has a place", BEYOND, net.lay(4, 2, 1));
        dueRow(net, 4, 1, 2, 2);
        for (int i : new int[] {3, 4, 60, MAX, -1, -2, -39, -40, MIN}) {
            due("none has a place from " + i + " on", BEYOND, net.lay(4, i, 0));
        }
        dueRow(net, 4, 1, 2, 2);
        net.list(4, 0);
        due("no place at all", BEYOND, net.lay(4, 0, 0));
        due("no place at all", NO, net.get(4, 0));
    }

    private static void judged() {
        says("JUDGED: the first VERTEX whose FIGURE is not what the LIST has there, from a place on; -5: none; 100 and "
            + "how many were looked at, if the row ends ahead of that (or the place is below 0).");
        for (int list = 3; list < 5; list++) {
            RingCounts net = kite();
            for (int sort = 0; sort < 4; sort++) {
                net.list(list, 40);
                net.lay(list, 0, sort);
                due("none", -5, net.judge(list, 0, sort));
                due("from 1 on the first is not", sort < 2 ? 1 : 3, net.judge(list, 1, sort));
                net.set(list, 39, 9);
                due("the last", 39, net.judge(list, 0, sort));
                net.set(list, 0, 9);
                due("the first", 0, net.judge(list, 0, sort));
            }
            net.list(list, 39);
            net.lay(list, 0, 0);
            due("39 are as they should be", 139, net.judge(list, 0, 0));
            net.set(list, 38, 4);
            due("the last there is not", 38, net.judge(list, 0, 0));
            net.list(list, 46);
            net.lay(list, 6, 1);
            due("from 6 on", -5, net.judge(list, 6, 1));
            net.list(list, 8);
            net.lay(list, 6, 1);
            due("two are there", 102, net.judge(list, 6, 1));
            due("one is there, and is not", 0, net.judge(list, 7, 0));
            due("one is there, and is", 101, net.judge(list, 7, 1));
            for (int i : new int[] {8, 9, MAX, -1, -2, MIN}) {
                due("none is there from " + i + " on", 100, net.judge(list, i, 1));
            }
            net.list(list, 0);
            due("an empty row", 100, net.judge(list, 0, 0));
        }
        RingCounts wide = kite();
        wide.list(5, 40);
        wide.lay(5, 0, 0);
        wide.set(5, 1, 3 + (1L << 32));
        due("all bits count", 1, wide.judge(5, 0, 0));
        says("JUDGED by a LIST from i on. NONE: list, sort; NOTHING.");
        for (int bad : new int[] {-1, 4, 5, MIN, MAX}) {
            due("judge sort " + bad, -1, wide.judge(5, 0, bad));
            due("NONE ahead of NOTHING", -1, wide.judge(0, 0, bad));
        }
        for (int bad : NO_LISTS) {
            due("judge by " + bad, -1, wide.judge(bad, 0, 0));
        }
        due("NOTHING", NOTHING, wide.judge(0, 0, 0));
        due("NOTHING, though below 0", NOTHING, wide.judge(0, -1, 0));
        due("the list stays", 3 + (1L << 32), wide.get(5, 1));
    }

    // ---- THE IMAGE

    private static void image() {
        says("THE IMAGE: EDGES with their WORTHS, HEAVY ones, SPAN, MOVES, CARRIED, REBASES, CHANGES, PICKED, what may "
            + "go back.");
        // Eight lone EDGES make the BOUND 4; 0 becomes HEAVY by its sixth: MOVES 1, CARRIED 6.
        RingCounts net = net("+20,21=-9;+22,23;+24,25;+26,27;+28,29;+30,31;+32,33;+34,35;+0,1=5;+0,2;+0,3;+0,4"
            + ";+0,5;+0,6;-0,6");
        due("heavy", 1, net.told(5));
        due("moves", 1, net.told(6));
        due("carried", 6, net.told(7));
        Checks.pick(net, "d>1");
        String before = Checks.lookAt(net);
        due("image", 13, net.image());
        checks.dueText("taking it changes nothing", before, Checks.lookAt(net));
        due("texts", 19, Checks.batch(net, "*0;-20,21;+20,21=8;-22,23;-24,25;-26,27;-28,29;-30,31;-32,33;-34,35")
            + Checks.batch(net, "~20,21;+0,1=6;+0,2;+9,8;-9,8"));
        due("edges", 2, net.told(0));
        Checks.pick(net, "n=7");
        due("undo", 13, net.undo());
        checks.dueText("all is as it was", before, Checks.lookAt(net));
        due("a worth", 5, net.worth(0, 1));
        due("a worth", -9, net.worth(20, 21));
        due("bound", 4, net.told(4));
        due("picked", 1, net.picked());
        due("may go back", 15, net.told(10));
        due("what went last comes back", 1, net.back(1));
        due("0-6", bits(1, 2, 3, 4, 5, 6), net.near(0));
        due("heavy by moves: it was HEAVY", 1, net.told(6));
        due("14 more", 14, net.back(60));
        due("none is left", 0, net.told(0));
        due("undo again", 13, net.undo());
        checks.dueText("all is as it was", before, Checks.lookAt(net));
        due("what went last comes back", 1, net.back(1));
        due("undo again", 13, net.undo());
        due("15 may go back", 15, net.back(60));
    }

    private static void imageOfSixty() {
        says("All is as THE IMAGE: EDGE COUNT. STATE: there is none.");
        RingCounts net = new RingCounts();
        due("none yet", -3, net.undo());
        for (int i = 0; i < 61; i++) {
            net.add(i / 31, 8 + i % 31, i);
        }
        due("none yet", -3, net.undo());
        due("61 are there", 61, net.told(0));
        due("image", 61, net.image());
        for (int i = 0; i < 61; i++) {
            net.cut(i / 31, 8 + i % 31);
        }
        due("all went", 0, net.told(0));
        due("undo", 61, net.undo());
        due("60 may go back", 60, net.told(10));
        due("they do", 60, net.back(60));
        checks.dueText("the first stays", "+0,8=0", Checks.spelled(net));
        RingCounts none = new RingCounts();
        due("of none", 0, none.image());
        none.add(0, 1, 1);
        Checks.pick(none, "n=5");
        due("undo to none", 0, none.undo());
        due("span 1", 1, none.told(3));
        due("no changes", 0, none.told(9));
        due("none may go back", 0, none.told(10));
        due("none is picked", 0, none.picked());
        due("the first again", 0, none.add(0, 1, 1));
        due("span 2", 2, none.told(3));
        says("THE IMAGE is taken: EDGE COUNT.");
        due("the latest counts", 1, none.image());
        none.cut(0, 1);
        due("undo", 1, none.undo());
        due("undo again", 1, none.undo());
        due("changes", 1, none.told(9));
        due("image", 1, none.image());
        none.add(0, 2, 1);
        due("image", 2, none.image());
        none.cut(0, 2);
        due("the latest", 2, none.undo());
    }

    /** The document names no more than it does: LISTS, THE TAPE and THE PAPER are none of THE IMAGE. */
    private static void whatTheImageHasNot() {
        says("THE IMAGE: EDGES with their WORTHS, HEAVY ones");
        RingCounts net = counting(0, 2);
        net.list(4, 2);
        net.add(0, 1, 1);
        net.spell();
        net.feed('n');
        net.image();
        net.set(0, 1, 9);
        net.list(4, 1);
        net.list(5, 1);
        net.add(0, 2, 1);
        net.spell();
        net.feed('=');
        due("undo", 1, net.undo());
        dueRow(net, 0, 1, 9);
        dueRow(net, 4, 0);
        dueRow(net, 5, 0);
        due("the paper", 9, net.told(12));
        due("the tape", 2, net.clear());
    }

    // ---- what is answered

    private static void codes() {
        says("NOTHING (-11): there is none; CAST (-12): of unlike sorts; BEYOND (-13): no such place; BELOW (-14): a "
            + "size below 0.");
        RingCounts net = counting(0, 2);
        net.list(5, 2);
        due("NOTHING", -11, net.set(1, 0, 1));
        due("CAST", -12, net.move(0, 0, 5, 0, 1));
        due("BEYOND", -13, net.set(0, 2, 1));
        due("BELOW", -14, net.list(0, -1));
        says("Answers: NONE (-1) no such number (of two VERTICES that are one, too); BAD (-2) a number is not as told; "
            + "STATE (-3) as told; FULL (-4); the first that a call's words name.");
        due("NONE", -1, RingCounts.NONE);
        due("BAD", -2, RingCounts.BAD);
        due("STATE", -3, RingCounts.STATE);
        due("FULL", -4, RingCounts.FULL);
        says("`NO = Long.MIN_VALUE`: No such number; nothing to tell.");
        due("NO", Long.MIN_VALUE, RingCounts.NO);
        says("`OVER = Long.MIN_VALUE + 1`: It can't be a long.");
        due("OVER", Long.MIN_VALUE + 1, RingCounts.OVER);
    }

    private static void answeredSo() {
        says("What is answered so changes nothing; what is asked changes nothing.");
        RingCounts net = kite();
        count(net, 1, 3);
        net.list(4, 2);
        Checks.pick(net, "d=3");
        net.spell();
        net.image();
        String before = Checks.stateOf(net);
        refusedCalls(net);
        checks.dueText("refused calls", before, Checks.stateOf(net));
        RingCounts other = kite();
        count(other, 1, 3);
        Checks.pick(other, "d=3");
        other.spell();
        before = Checks.lookAt(other);
        askingCalls(other);
        checks.dueText("asking calls", before, Checks.lookAt(other));
        dueRow(other, 1, 1, 2, 3);
        due("what may go back", 6, other.back(60));
    }

    private static void refusedCalls(RingCounts net) {
        long[] refused = {net.add(0, 0, 1), net.add(0, 9, 2000001), net.add(0, 1, 1), net.cut(0, 40), net.cut(0, 9),
            net.swap(0, 1, 1, 3), net.swap(0, 9, 3, 39), net.swap(0, 2, 1, 3), net.feed(0), net.back(-1), net.back(61),
            net.list(6, 1), net.list(1, 61), net.list(1, -1), net.set(1, 3, 9), net.set(0, 0, 9), net.set(6, 0, 9),
            net.move(1, 0, 1, 1, 3), net.move(1, 0, 4, 0, 1), net.move(1, 0, 0, 0, 1), net.lay(1, -1, 0),
            net.lay(1, 3, 0), net.lay(1, 0, 4), net.lay(0, 0, 0)};
        long[] want = {-1, -2, -3, -1, -3, -1, -3, -3, -2, -2, -2, -1, -2, BELOW, BEYOND, NOTHING, -1, BEYOND, CAST,
            NOTHING, BEYOND, BEYOND, -1, NOTHING};
        for (int i = 0; i < want.length; i++) {
            due("refused call " + i, want[i], refused[i]);
        }
    }

    private static void askingCalls(RingCounts net) {
        for (int what = 0; what < 14; what++) {
            net.told(what);
            net.of(0, what);
            net.two(0, 1, what);
            net.edge(0, 1, what);
            net.broken(what);
            net.peeled(1, what);
            net.closed(what - 1, what % 2);
            net.truss(what);
            net.pieces(what);
            net.hood(0, 1, what);
            net.hoods(what);
            net.core(what);
            net.judge(1, what, what % 4);
            net.get(1, what);
            net.paper(what);
        }
        due("worth", 5, net.worth(0, 1));
        due("near", 1L << 3, net.near(39));
        due("value", 10, net.value());
        due("fewest", 1, net.fewest());
        due("picked", bits(0, 1, 3), net.picked());
    }

    public static void main(String[] args) {
        nothingAtFirst();
        sizes();
        sorts();
        move();
        moveRefused();
        figures();
        laid();
        judged();
        image();
        imageOfSixty();
        whatTheImageHasNot();
        codes();
        answeredSo();
        checks.end();
    }
}
