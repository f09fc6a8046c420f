/** The sentences of the third of the document's 'Terms', and of promises 21 to 28, each at its edges. */
public final class TextSentencesTest {
    private static final Checks checks = new Checks("TextSentencesTest");
    private static final long NO = Long.MIN_VALUE;
    private static final long ALL = (1L << 40) - 1;
    private static final int MAX = Integer.MAX_VALUE;
    private static final int MIN = Integer.MIN_VALUE;
    private static final String FIGURES = "0123456789";
    private static final String STARTS = "(!SAndtch";

    private static void says(String words) {
        checks.says(words);
    }

    private static void due(String call, long want, long got) {
        checks.due(call, want, got);
    }

    private static RingCounts net(String batch) {
        return Checks.net(batch);
    }

    private static long bits(int... vertices) {
        return Checks.bits(vertices);
    }

    private static void dueBatch(String text, long want) {
        due("batch " + text, want, Checks.batch(new RingCounts(), text));
    }

    private static void dueBatchFault(String text, int fault) {
        dueBatch(text, -100 - fault);
    }

    private static void duePick(RingCounts net, String text, long want) {
        due("pick " + text, Long.bitCount(want), Checks.pick(net, text));
        due("picked by " + text, want, net.picked());
    }

    private static void duePickFault(String text, int fault) {
        due("pick " + text, -100 - fault, Checks.pick(new RingCounts(), text));
    }

    /** Of all bytes just these may stand behind a text's beginning. */
    private static void dueNext(boolean batch, String begin, String may) {
        for (int letter = 1; letter < 128; letter++) {
            RingCounts net = new RingCounts();
            Checks.type(net, begin);
            net.feed(letter);
            int answer = batch ? net.batch() : net.pick();
            boolean stands = answer != -100 - begin.length();
            String call = (batch ? "batch '" : "pick '") + begin + "' and byte " + letter;
            checks.holds(call + (stands ? " goes on" : " doesn't go on"), stands == may.indexOf(letter) >= 0);
        }
    }

    private static void fill(RingCounts net, int count) {
        for (int i = 0; i < count; i++) {
            net.feed('x');
        }
    }

    // ---- THE TAPE

    private static void tape() {
        says("THE TAPE holds 0 .. 160 bytes.");
        RingCounts net = new RingCounts();
        due("none at first", 0, net.clear());
        fill(net, 159);
        due("the last", 160, net.feed('x'));
        due("one more", -4, net.feed('x'));
        due("one more", -4, net.feed(127));
        due("as many as there may be", 160, net.clear());
        due("the first again", 1, net.feed('x'));
        says("A byte (1 .. 127) comes behind THE TAPE's: how many it has. BAD; FULL.");
        RingCounts other = new RingCounts();
        int[] bad = {0, -1, 128, 129, 255, 256 + '+', -127, MIN, MAX};
        for (int letter : bad) {
            due("feed " + letter, -2, other.feed(letter));
        }
        due("none has come", 0, other.clear());
        for (int letter = 1; letter < 128; letter++) {
            due("feed " + letter, letter, other.feed(letter));
        }
        fill(other, 33);
        for (int letter : bad) {
            due("feed " + letter + " when it is full", -2, other.feed(letter));
        }
        due("full", -4, other.feed(1));
        due("all are there", 160, other.clear());
        says("THE TAPE is empty then: how many bytes it had.");
        due("none any more", 0, other.clear());
        Checks.type(other, "+0,");
        due("three", 3, other.clear());
        due("what was cleared is none of the text", -100, Checks.batch(other, "1"));
        due("nothing has come", 0, other.told(0));
    }

    private static void tapeIsFull() {
        says("FULL (-4)");
        RingCounts net = new RingCounts();
        String text = "+0,1" + ";*2".repeat(52);
        due("length", 160, text.length());
        Checks.type(net, text);
        due("an x can't come", -4, net.feed('x'));
        due("nor can it spoil the text", 1, net.batch());
        due("a shorter one has nothing of it", -103, Checks.batch(net, "+3,"));
    }

    private static void tapeIsEmptyBehind() {
        says("THE TAPE is empty behind each call that reads it.");
        RingCounts net = new RingCounts();
        due("batch", 1, Checks.batch(net, "+0,1"));
        due("behind a batch", 0, net.clear());
        due("batch with a fault", -105, Checks.batch(net, "+0,1="));
        due("behind a fault", 0, net.clear());
        due("pick", 2, Checks.pick(net, "d=1"));
        due("behind a pick", 0, net.clear());
        due("pick with a fault", -103, Checks.pick(net, "n=1n"));
        due("behind a fault", 0, net.clear());
        due("an empty batch", -100, net.batch());
        due("an empty pick", -100, net.pick());
        Checks.type(net, "d=1");
        net.spell();
        net.paper(0);
        net.back(60);
        net.picked();
        net.image();
        net.undo();
        net.add(3, 4, 1);
        net.told(12);
        due("the others don't read it", 2, net.pick());
    }

    // ---- FAULTS

    private static void numbers() {
        says("A number is as many figures as stand there, so many at most.");
        dueBatch("+9,10", 1);
        dueBatch("+09,010", -100 - 6);
        dueBatchFault("+123,4", 3);
        dueBatchFault("+1,123", 5);
        dueBatchFault("*123", 3);
        dueBatch("+1,12", 1);
        dueBatch("+12,1", 1);
        duePick(net("+0,1"), "n=12", bits(12));
        duePick(net("+0,1"), "n=012", bits(12));
        duePickFault("n=0012", 5);
        duePickFault("n=1234", 5);
        RingCounts net = new RingCounts();
        due("1 figure", 1, Checks.batch(net, "+0,1=9"));
        due("7 figures", 1, Checks.batch(net, "+0,2=1234567"));
        due("7 figures", 1, Checks.batch(net, "+0,3=-0000009"));
        due("worth", 9, net.worth(0, 1));
        due("worth", 1234567, net.worth(0, 2));
        due("worth", -9, net.worth(0, 3));
        says("FAULT of a text: of a number that may not be, where it begins (a - ahead of it not counted)");
        dueBatchFault("+40,1", 1);
        dueBatchFault("+1,40", 3);
        dueBatchFault("+39,99", 4);
        dueBatchFault("*40", 1);
        dueBatchFault("*0;*99", 4);
        dueBatchFault("+0,1=2000001", 5);
        dueBatchFault("+0,1=-2000001", 6);
        dueBatchFault("+10,11=-9999999", 8);
        dueBatchFault("+7,7", 3);
        dueBatchFault("+07,7", 4);
        dueBatchFault("-7,07", 3);
        dueBatchFault("~39,39", 4);
        dueBatchFault("+40,40", 1);
        dueBatchFault("+40x", 1);
        dueBatchFault("+400,1", 1);
        says("A number of 1 to 7 figures that may not be is the FAULT where it begins; an eighth figure is a byte that "
            + "can't stand.");
        dueBatchFault("+0,1=2000001;x", 5);
        dueBatchFault("+0,1=3000000x", 5);
        dueBatchFault("+0,1=20000000", 12);
        dueBatchFault("+0,1=00000000", 12);
        dueBatchFault("+0,1=-10000000", 13);
        dueBatchFault("+0,1=-00000001;+0,2", 13);
        dueBatchFault("+0,1=99999990", 5);
    }

    private static void ends() {
        says("the length, if it ends too early.");
        String[] batches = {"", "+", "-", "~", "*", "+0", "+12", "~3", "+0,", "-12,", "+0,1=", "+0,1=-", "+0,1;", "*7;",
            "-0,1;+", "+0,1=5;*", "+0,1=5;~3,"};
        for (String text : batches) {
            dueBatchFault(text, text.length());
        }
        String[] picks = {"", "n", "d<", "t=", "c>", "h", "!", "(", "S", "A", "n=1|", "n=1&", "(n=1", "((n=1)", "(n=1|",
            "!!!!", "((((", "((((n=1)))", "n=1|n=2&"};
        for (String text : picks) {
            duePickFault(text, text.length());
        }
        String full = "*0" + ";*0".repeat(52);
        dueBatchFault(full + ";*", 160);
        dueBatch(full + ";", -259);
        dueBatchFault(full + ";x", 159);
        dueBatch(full, 0);
        duePickFault("n=1" + "|n=1".repeat(39) + "|", 160);
        duePickFault("n=1" + "|n=1".repeat(39) + "x", 159);
        duePick(new RingCounts(), "n=1" + "|n=2".repeat(39), bits(1, 2));
    }

    private static void firstBytes() {
        says("otherwise the place (from 0) of the first byte with which no such text goes on");
        dueNext(true, "", "+-~*");
        dueNext(true, "+", FIGURES);
        dueNext(true, "-", FIGURES);
        dueNext(true, "~", FIGURES);
        dueNext(true, "*", FIGURES);
        dueNext(true, "+3", FIGURES + ",");
        dueNext(true, "+39", ",");
        dueNext(true, "+39,", FIGURES);
        dueNext(true, "+39,3", FIGURES + "=;");
        dueNext(true, "-39,3", FIGURES + ";");
        dueNext(true, "~39,3", FIGURES + ";");
        dueNext(true, "*3", FIGURES + ";");
        dueNext(true, "+39,38", "=;");
        dueNext(true, "-39,38", ";");
        dueNext(true, "~39,38", ";");
        dueNext(true, "*39", ";");
        dueNext(true, "+3,8=", FIGURES + "-");
        dueNext(true, "+3,8=-", FIGURES);
        dueNext(true, "+3,8=1", FIGURES + ";");
        dueNext(true, "+3,8=-123456", FIGURES + ";");
        dueNext(true, "+3,8=1234567", ";");
        dueNext(true, "+3,8=-1234567", ";");
        dueNext(true, "+3,8;", "+-~*");
        dueNext(true, "*3;-1,2;", "+-~*");
    }

    private static void firstBytesOfPicks() {
        says("F: !F, (E), SF, AF, or a TEST: a letter, < or = or >, a number of 1 to 3 figures.");
        for (String begin : new String[] {"", "!", "(", "S", "A", "n=1|", "n=1&", "(((", "S(!", "(n=1|", "(n=1)&"}) {
            dueNext(false, begin, STARTS);
        }
        for (String letter : new String[] {"n", "d", "t", "c", "h"}) {
            dueNext(false, letter, "<=>");
        }
        dueNext(false, "n=", FIGURES);
        dueNext(false, "n<", FIGURES);
        dueNext(false, "n>", FIGURES);
        dueNext(false, "n=1", FIGURES + "|&");
        dueNext(false, "n=12", FIGURES + "|&");
        dueNext(false, "n=123", "|&");
        dueNext(false, "(n=1", FIGURES + "|&)");
        dueNext(false, "(n=123", "|&)");
        dueNext(false, "(n=1)", "|&");
        dueNext(false, "((n=1)", "|&)");
        dueNext(false, "!n=123", "|&");
        dueNext(false, "n=1&n=123", "|&");
    }

    private static void doesNothing() {
        says("A text with a FAULT does nothing.");
        RingCounts net = net("+0,1=5;+1,2=6;+0,2=7");
        Checks.pick(net, "n<2");
        net.spell();
        String before = Checks.stateOf(net);
        String[] texts = {"", "*0;", "+3,4;*0;x", "~0,1;~0,1;~0,1;+40,1", "-0,1;+0,1=2000001", "+5,6;+7,7", "*0;*1;*"};
        int[] faults = {0, 3, 8, 16, 10, 8, 7};
        for (int i = 0; i < texts.length; i++) {
            due("batch " + texts[i], -100 - faults[i], Checks.batch(net, texts[i]));
        }
        due("pick", -103, Checks.pick(net, "n=5x"));
        checks.dueText("nothing is changed", before, Checks.stateOf(net));
        due("what may go back", 3, net.back(60));
        says("THE TAPE is done as a BATCH: how many CHANGES that made; -100 less the FAULT.");
        due("none", 0, Checks.batch(net, "-0,1"));
        due("one", 1, Checks.batch(net, "+0,1"));
        due("one of three", 1, Checks.batch(net, "+0,1;-2,3;~4,5"));
        due("one comes and goes", 4, Checks.batch(net, "+8,9;-8,9;+9,8;-9,8"));
        due("changes", 12, net.told(9));
    }

    // ---- BATCHES

    private static void plus() {
        says("+ and a TWO: an EDGE comes (if there is none), with WORTH 1, or that told behind by = and a number of 1 "
            + "to 7 figures, - ahead of it, if one likes.");
        RingCounts net = new RingCounts();
        due("with 1", 1, Checks.batch(net, "+0,1"));
        due("told", 7, Checks.batch(net, "+0,2=0;+0,3=-0;+0,4=2000000;+0,5=-2000000;+0,6=0000007;+0,7=-7;+0,8=1"));
        long[] worths = {1, 0, 0, 2000000, -2000000, 7, -7, 1};
        for (int i = 0; i < worths.length; i++) {
            due("worth of 0-" + (i + 1), worths[i], net.worth(i + 1, 0));
        }
        due("there is one", 0, Checks.batch(net, "+0,4=5;+4,0;+0,1=9"));
        due("its worth stays", 2000000, net.worth(0, 4));
        due("its worth stays", 1, net.worth(0, 1));
        due("there is one behind the first", 1, Checks.batch(net, "+38,39=5;+39,38=6"));
        due("the first one's worth", 5, net.worth(38, 39));
        due("a worth isn't kept for the next", 2, Checks.batch(net, "+20,21=5;+20,22"));
        due("the next one's worth", 1, net.worth(20, 22));
    }

    private static void minusAndOther() {
        says("- and a TWO: an EDGE goes (if there is one).");
        RingCounts net = net("+0,1=5;+1,2=6");
        due("goes", 1, Checks.batch(net, "-1,0"));
        due("is gone", 0, net.near(0));
        due("there is none", 0, Checks.batch(net, "-0,1;-38,39"));
        due("none has come", 1, net.told(0));
        says("~ and a TWO: it goes, if there is one, otherwise it comes with WORTH 1.");
        due("goes", 1, Checks.batch(net, "~2,1"));
        due("is gone", NO, net.worth(1, 2));
        due("comes", 1, Checks.batch(net, "~2,1"));
        due("not with the worth that it had", 1, net.worth(1, 2));
        due("three times", 3, Checks.batch(net, "~1,2;~2,1;~1,2"));
        due("is gone", NO, net.worth(1, 2));
        due("none is left", 0, net.told(0));
        says("* and a VERTEX: all its EDGES go, those with lesser VERTICES first.");
        RingCounts star = net("+5,39=1;+5,0=2;+5,4=3;+5,6=4;+7,8=5");
        due("all of one without any", 0, Checks.batch(star, "*9;*09"));
        due("all", 4, Checks.batch(star, "*5"));
        due("the others stay", 1, star.told(0));
        due("near 5", 0, star.near(5));
        int[] last = {39, 6, 4, 0};
        for (int v : last) {
            due("back", 1, star.back(1));
            checks.holds(v + " is the next to come back", star.two(5, v, 3) == 1);
        }
        due("all are back", 5, star.told(0));
        due("of all that there are then", 7, Checks.batch(star, "*7;+7,9;*07;*5;*5;-5,0"));
        RingCounts most = new RingCounts();
        for (int v = 0; v < 39; v++) {
            most.add(39, v, 1);
        }
        due("39 of 39", 39, Checks.batch(most, "*39"));
        due("all may go back", 60, most.told(10));
    }

    private static void twos() {
        says("A TWO: VERTEX, comma, VERTEX, unlike. A VERTEX: 1 or 2 figures, 0 .. 39.");
        RingCounts net = new RingCounts();
        due("the ends", 3, Checks.batch(net, "+0,39;+00,38;+37,01"));
        due("near 0", bits(38, 39), net.near(0));
        due("near 1", bits(37), net.near(1));
        for (int v = 0; v < 40; v++) {
            dueBatchFault("+" + v + "," + v, v < 10 ? 3 : 4);
            dueBatch("*" + v, 0);
        }
        for (int v = 40; v < 100; v += 9) {
            dueBatchFault("*" + v, 1);
        }
        says("A BATCH: parts, one or more, parted by ;");
        dueBatch("*0;*1;*2", 0);
        dueBatchFault(";", 0);
        dueBatchFault("*0;;*1", 3);
        dueBatchFault("*0;*1;", 6);
        dueBatchFault("*0*1", 2);
    }

    // ---- PICKS

    /** 0-1-2 is a TRIANGLE on which 3 hangs; 38 and 39 are joined. 0 is HEAVY, 4 .. 37 have nothing. */
    private static RingCounts tail() {
        return net("+0,1;+0,2;+0,3;+1,2;+38,39");
    }

    private static void letters() {
        says("Letters: n the number of the VERTEX, d its DEGREE, t how many TRIANGLES have it, c its CORE, h 1, if it "
            + "is HEAVY, otherwise 0.");
        RingCounts net = tail();
        due("0 by the bound of 3", 1, net.told(5));
        duePick(net, "n=0", bits(0));
        duePick(net, "n=39", bits(39));
        duePick(net, "n=40", 0);
        duePick(net, "n<0", 0);
        duePick(net, "n>39", 0);
        duePick(net, "n>38", bits(39));
        duePick(net, "n<1", bits(0));
        duePick(net, "n<40", ALL);
        duePick(net, "n<999", ALL);
        duePick(net, "n>999", 0);
        duePick(net, "d=3", bits(0));
        duePick(net, "d=2", bits(1, 2));
        duePick(net, "d=1", bits(3, 38, 39));
        duePick(net, "d>0", bits(0, 1, 2, 3, 38, 39));
        duePick(net, "d<2&n>2&n<5", bits(3, 4));
        duePick(net, "t=1", bits(0, 1, 2));
        duePick(net, "t>1", 0);
        duePick(net, "c=2", bits(0, 1, 2));
        duePick(net, "c=1", bits(3, 38, 39));
        duePick(net, "c<1", ALL & ~bits(0, 1, 2, 3, 38, 39));
        duePick(net, "h=1", bits(0));
        duePick(net, "h=0", ALL & ~1L);
        duePick(net, "h>1", 0);
        RingCounts most = Checks.whole(30);
        duePick(most, "t=406", (1L << 30) - 1);
        duePick(most, "t>406", 0);
        duePick(most, "d=29&c=29", (1L << 30) - 1);
        net.cut(0, 1);
        net.cut(38, 39);
        duePick(net, "c>0", bits(0, 1, 2, 3));
        duePick(net, "d>0", bits(0, 1, 2, 3));
        duePick(net, "t>0", 0);
        duePick(net, "h>0", bits(0));
    }

    private static void signs() {
        says("E: T or T|E. T: F or F&T.");
        RingCounts net = tail();
        duePick(net, "n=1|n=2&n=3", bits(1));
        duePick(net, "n=3&n=2|n=1", bits(1));
        duePick(net, "n=1|n=2|n=3", bits(1, 2, 3));
        duePick(net, "n>1&n<5&d=1", bits(3));
        duePick(net, "(n=1|n=2)&n=2", bits(2));
        duePick(net, "n=2&(n=1|n=2)", bits(2));
        duePick(net, "n=1&n=2|n=3&n=4|n=5&n=5", bits(5));
        duePick(net, "!n=1&n<3", bits(0, 2));
        duePick(net, "!(n=1&n<3)&n<3", bits(0, 2));
        duePick(net, "!n=1|n=1", ALL);
        duePick(net, "!n<40", 0);
        duePick(net, "!!n=1", bits(1));
        duePick(net, "Sn=3&n=1", 0);
        duePick(net, "S(n=3&n=1)|n=1", bits(1));
        duePick(net, "Sn=3|n=1", bits(0, 1));
        duePick(net, "An=0&n=3", bits(3));
        duePick(net, "!Sn=3&n<2", bits(1));
        duePick(net, "S!n=3&n=3", bits(3));
    }

    private static void someAndAll() {
        says("SF: some VERTEX NEAR it has F; AF: all have.");
        RingCounts net = tail();
        long alone = ALL & ~bits(0, 1, 2, 3, 38, 39);
        duePick(net, "Sn=0", bits(1, 2, 3));
        duePick(net, "Sn<40", ALL & ~alone);
        duePick(net, "Sn=40", 0);
        duePick(net, "Sd=1", bits(0, 38, 39));
        duePick(net, "Sn=39", bits(38));
        duePick(net, "An=0", alone | bits(3));
        duePick(net, "An<3", alone | bits(1, 2, 3));
        duePick(net, "An=40", alone);
        duePick(net, "An<40", ALL);
        duePick(net, "!S!n=0", alone | bits(3));
        duePick(net, "A!n=0", ALL & ~bits(1, 2, 3));
        duePick(net, "!Sn=0", ALL & ~bits(1, 2, 3));
        duePick(net, "SSn=3", bits(1, 2, 3));
        duePick(net, "SAn=0", bits(0));
        duePick(net, "ASn=3", alone | bits(3));
        duePick(net, "AAn=0", alone);
        RingCounts none = new RingCounts();
        duePick(none, "Sn<40", 0);
        duePick(none, "An=40", ALL);
        RingCounts last = net("+1,2");
        duePick(last, "An=40&n<4", bits(0, 3));
        duePick(last, "An=40&n>36", bits(37, 38, 39));
    }

    private static void nested() {
        says("A (, !, S or A within 4 others of these is none.");
        RingCounts net = tail();
        duePick(net, "!!!!n=7", bits(7));
        duePick(net, "((((n=7))))", bits(7));
        duePick(net, "SSSSn=39", bits(39));
        duePick(net, "AAAAn=39&n>37", bits(39));
        duePick(net, "(!SAn=0)", ALL & ~bits(0));
        duePick(net, "((((n=1))))|((((n=2))))&!!!!n=2", bits(1, 2));
        duePick(net, "(((n=1)|(n=2)&!n=1))", bits(1, 2));
        String[] deeper = {"!!!!!n=7", "(((((n=7)))))", "SSSSSn=7", "AAAAAn=7", "(!SA(n=0))", "(!SA!n=0)", "(!SASn=0)",
            "(!SAAn=0)", "((((!n=1))))", "!(A(Sn=1))", "AS!((n=1))"};
        for (String text : deeper) {
            duePickFault(text, 4);
        }
        duePickFault("n=1|!!!!(n=1)", 8);
        duePickFault("((((n=1|!n=2))))", 8);
        duePickFault("((((n=1&n=2|Sn=2))))", 12);
        duePickFault("((((n=1))))&(((((n=1)))))", 16);
        duePickFault("!(!(n=1)&S!n=1)|!(!(A!n=1))", 20);
    }

    private static void pickedStays() {
        says("PICKED: the VERTICES for which E holds, by how all is then (as bits; none at first).");
        RingCounts net = tail();
        due("none at first", 0, net.picked());
        due("none at first", 0, new RingCounts().picked());
        duePick(net, "d=1", bits(3, 38, 39));
        net.cut(38, 39);
        net.add(3, 1, 1);
        due("as all was then", bits(3, 38, 39), net.picked());
        net.back(2);
        due("as all was then", bits(3, 38, 39), net.picked());
        says("THE TAPE is a PICK: how many are PICKED; -100 less the FAULT (PICKED stays).");
        due("a fault at the end", -104, Checks.pick(net, "n=1|"));
        due("stays", bits(3, 38, 39), net.picked());
        due("an empty one", -100, net.pick());
        due("stays", bits(3, 38, 39), net.picked());
        due("a batch", 1, Checks.batch(net, "*3"));
        due("stays", bits(3, 38, 39), net.picked());
        due("all", 40, Checks.pick(net, "n<40"));
        due("all", ALL, net.picked());
        due("none", 0, Checks.pick(net, "n>39"));
        due("none", 0, net.picked());
    }

    // ---- SPELLING, THE PAPER

    private static void spelling() {
        says("SPELLING: for each EDGE, in their order: +, the TWO, and, if its WORTH is not 1, = and that; parted by ; "
            + "(numbers as short as can be; nothing for no EDGES).");
        RingCounts net = new RingCounts();
        due("nothing", 0, net.spell());
        int[] worths = {1, 0, -1, 2, 9, 10, -10, 99, 100, 1000, -10000, 100000, 999999, 1000000, -2000000, 2000000};
        StringBuilder want = new StringBuilder();
        for (int i = worths.length - 1; i >= 0; i--) {
            net.add(10 + i, 9, worths[i]);
        }
        for (int i = 0; i < worths.length; i++) {
            want.append(i > 0 ? ";+9," : "+9,").append(10 + i);
            want.append(worths[i] == 1 ? "" : "=" + worths[i]);
        }
        checks.dueText("each worth", want.toString(), Checks.spelled(net));
        checks.dueText("in their order", "+0,10;+0,39;+1,2;+9,10;+38,39",
            Checks.spelled(net("+39,38;+10,9;+2,1;+39,0;+10,0")));
        String text = "+0,39=-5;+1,2;+20,30=0";
        checks.dueText("as it was told", text, Checks.spelled(net(text)));
    }

    private static void paper() {
        says("THE PAPER holds the latest one (nothing at first).");
        RingCounts net = new RingCounts();
        due("no byte at first", -1, net.paper(0));
        due("bytes at first", 0, net.told(12));
        net.add(0, 1, 7);
        due("not by itself", -1, net.paper(0));
        due("spell", 6, net.spell());
        net.add(0, 2, 1);
        net.cut(0, 1);
        due("the latest one's length", 6, net.told(12));
        due("the latest one's end", '7', net.paper(5));
        due("spell", 4, net.spell());
        due("the latest one's end", '2', net.paper(3));
        due("the older one's is gone", -1, net.paper(5));
        due("bytes", 4, net.told(12));
        net.cut(0, 2);
        due("spell", 0, net.spell());
        due("nothing again", -1, net.paper(0));
        due("bytes", 0, net.told(12));
        says("Byte i of THE PAPER. NONE.");
        net.add(12, 34, -56);
        due("spell", 10, net.spell());
        String text = "+12,34=-56";
        for (int i = 0; i < text.length(); i++) {
            due("byte " + i, text.charAt(i), net.paper(i));
        }
        for (int bad : new int[] {-1, 10, 11, 127, 128, 20000, MIN, MAX}) {
            due("byte " + bad, -1, net.paper(bad));
        }
        says("THE PAPER becomes the SPELLING: how many bytes.");
        due("again", 10, net.spell());
        RingCounts many = Checks.whole(25);
        int bytes = 299;
        for (int u = 0; u < 25; u++) {
            for (int v = u + 1; v < 25; v++) {
                bytes += ("+" + u + "," + v).length();
            }
        }
        due("300 edges", bytes, many.spell());
        due("the last", '4', many.paper(bytes - 1));
        // Nine EDGES with five bytes, fifteen with six: at 123 is that of 0 and 23.
        due("byte 127", '3', many.paper(127));
        due("byte 128", ';', many.paper(128));
        due("byte 129", '+', many.paper(129));
        due("behind the last", -1, many.paper(bytes));
    }

    // ---- BACK

    private static void back() {
        says("BACK by n: the latest n CHANGES that may go back (or all, if these are fewer), the latest first, are "
            + "undone by opposite CHANGES (an EDGE that went comes with the WORTH that it had); neither may go back "
            + "then.");
        RingCounts net = net("+0,1=5;+0,2=6;-0,1;+0,1=7;+0,3=8");
        due("five may", 5, net.told(10));
        due("none asked", 0, net.back(0));
        due("five may", 5, net.told(10));
        due("one", 1, net.back(1));
        due("0-3 is gone", NO, net.worth(0, 3));
        due("four may", 4, net.told(10));
        due("two: 0-1 goes, then it comes as it was ahead of that", 2, net.back(2));
        due("with the worth that it had", 5, net.worth(0, 1));
        due("neither may go back", 2, net.told(10));
        due("changes", 8, net.told(9));
        due("all, these are fewer", 2, net.back(3));
        due("nothing is left", 0, net.told(0));
        due("none may", 0, net.told(10));
        due("none", 0, net.back(60));
        due("changes", 10, net.told(9));
        RingCounts swap = net("+0,1=5;+2,3=6");
        swap.swap(0, 1, 2, 3);
        due("1-2 goes", 1, swap.back(1));
        due("1-2", NO, swap.worth(1, 2));
        due("0-3", 5, swap.worth(0, 3));
        due("0-3 goes", 1, swap.back(1));
        due("0-3", NO, swap.worth(0, 3));
        due("2-3 comes", 1, swap.back(1));
        due("2-3", 6, swap.worth(2, 3));
        due("0-1 isn't yet", NO, swap.worth(0, 1));
        due("0-1 comes", 1, swap.back(1));
        due("0-1", 5, swap.worth(0, 1));
        says("BACK by n: how many CHANGES were undone. BAD: n (0 .. 60).");
        String before = Checks.lookAt(swap);
        for (int bad : new int[] {-1, 61, 62, MIN, MAX}) {
            due("back " + bad, -2, swap.back(bad));
        }
        checks.dueText("nothing is changed", before, Checks.lookAt(swap));
        due("back 60", 2, swap.back(60));
    }

    /** So many CHANGES: EDGES 0-1 .. 0-39, 1-2 .. come, with WORTHS 0, 1, .. */
    private static RingCounts come(int count) {
        RingCounts net = new RingCounts();
        for (int i = 0; i < count; i++) {
            if (i < 39) {
                net.add(0, i + 1, i);
            } else {
                net.add(1, i - 37, i);
            }
        }
        return net;
    }

    private static void sixty() {
        says("60 CHANGES at most may go back: as one more comes, the earliest of 60 that may is forgotten for good (it "
            + "may not go back then, even if later ones are undone).");
        due("59 may", 59, come(59).told(10));
        RingCounts sixty = come(60);
        due("60 may", 60, sixty.told(10));
        due("60 go back", 60, sixty.back(60));
        due("none is left", 0, sixty.told(0));
        RingCounts more = come(61);
        due("60 of 61 may", 60, more.told(10));
        due("one goes back", 1, more.back(1));
        due("59 may", 59, more.told(10));
        due("59 go back", 59, more.back(60));
        due("the first is there", 0, more.worth(0, 1));
        due("one is left", 1, more.told(0));
        due("none may", 0, more.back(60));
        RingCounts again = come(60);
        due("ten go back", 10, again.back(10));
        due("50 may", 50, again.told(10));
        for (int v = 30; v < 40; v++) {
            again.add(20, v, 1);
        }
        due("60 may", 60, again.told(10));
        again.add(20, 21, 1);
        due("60 of 61 may", 60, again.told(10));
        due("all that may", 60, again.back(60));
        checks.dueText("the first one stays", "+0,1=0", Checks.spelled(again));
        RingCounts text = come(58);
        due("three by a text", 3, Checks.batch(text, "+30,31;+30,32;+30,33"));
        due("60 of 61 may", 60, text.told(10));
        due("all that may", 60, text.back(60));
        checks.dueText("the first one stays", "+0,1=0", Checks.spelled(text));
    }

    private static void backMoves() {
        says("are undone by opposite CHANGES");
        RingCounts net = net("+20,21;+22,23;+24,25;+26,27;+28,29;+30,31;+32,33;+34,35");
        due("bound 4", 4, net.told(4));
        due("six", 6, Checks.batch(net, "+0,1;+0,2;+0,3;+0,4;+0,5;+0,6"));
        due("heavy", 1, net.told(5));
        due("four go back", 4, net.back(4));
        due("heavy yet with 2", 1, net.told(5));
        due("one goes back", 1, net.back(1));
        due("light with 1", 0, net.told(5));
        due("two moves", 2, net.told(6));
        due("carried 6 and 1", 7, net.told(7));
        due("changes", 19, net.told(9));
        due("span 16", 16, net.told(3));
        due("six more: 3 are left", 6, net.back(6));
        due("span 7 by a fourth", 7, net.told(3));
        due("rebases", 5, net.told(8));
        RingCounts gone = net("+0,1;+0,2;+0,3;-0,3;-0,2");
        due("span 4 of 1", 4, gone.told(3));
        due("those that went come", 2, gone.back(2));
        due("0-2 and 0-3", bits(1, 2, 3), gone.near(0));
        Checks.batch(gone, "-0,1;-0,2;-0,3");
        due("1 of none", 1, gone.told(3));
        due("two come", 2, gone.back(2));
        due("doubled twice", 4, gone.told(3));
    }

    public static void main(String[] args) {
        tape();
        tapeIsFull();
        tapeIsEmptyBehind();
        numbers();
        ends();
        firstBytes();
        firstBytesOfPicks();
        doesNothing();
        plus();
        minusAndOther();
        twos();
        letters();
        signs();
        someAndAll();
        nested();
        pickedStays();
        spelling();
        paper();
        back();
        sixty();
        backMoves();
        checks.end();
    }
}
