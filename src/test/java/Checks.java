import java.io.IOException;
import java.nio.charset.StandardCharsets;
import java.nio.file.Files;
import java.nio.file.Path;

/** Counts what was asked and prints each answer that is not the one that is due. */
final class Checks {
    private static final Path DOCUMENT = Path.of("../shared/DOC.md");

    private final String name;
    private int asked = 0;
    private int wrong = 0;
    private String document = null;
    private String words = "";
    private int askedByWords = 1;

    Checks(String name) {
        this.name = name;
    }

    /** What is asked from here on is what these words of the document mean; words that none asks of are an error. */
    void says(String newWords) {
        if (askedByWords == 0) {
            wrong++;
            System.out.println(name + ": nothing was asked of '" + words + "'");
        }
        if (!document().contains(newWords.replaceAll("\\s+", " "))) {
            wrong++;
            System.out.println(name + ": the document doesn't say '" + newWords + "'");
        }
        words = newWords;
        askedByWords = 0;
    }

    private String document() {
        if (document == null) {
            try {
                document = Files.readString(DOCUMENT, StandardCharsets.UTF_8).replaceAll("\\s+", " ");
            } catch (IOException e) {
                throw new IllegalStateException(e);
            }
        }
        return document;
    }

    private String told(String call) {
        return name + ": " + (words.isEmpty() ? "" : "'" + words + "': ") + call;
    }

    void due(String call, long want, long got) {
        asked++;
        askedByWords++;
        if (want != got) {
            wrong++;
            if (wrong <= 50) {
                System.out.println(told(call) + " answered " + got + ", due is " + want);
            }
        }
    }

    void dueText(String call, String want, String got) {
        asked++;
        askedByWords++;
        if (!want.equals(got)) {
            wrong++;
            System.out.println(told(call) + " answered '" + got + "', due is '" + want + "'");
        }
    }

    void holds(String claim, boolean holds) {
        due(claim, 1, holds ? 1 : 0);
    }

    int wrong() {
        return wrong;
    }

    /** Ends the program with exit code 1, if one answer was not as due. */
    void end() {
        if (askedByWords == 0) {
            wrong++;
            System.out.println(name + ": nothing was asked of '" + words + "'");
        }
        System.out.println(name + ": " + asked + " asked, " + wrong + " wrong");
        if (wrong != 0 || asked == 0) {
            System.exit(1);
        }
    }

    /** Puts a text on the tape. */
    static void type(RingCounts net, String text) {
        for (int i = 0; i < text.length(); i++) {
            net.feed(text.charAt(i));
        }
    }

    static int batch(RingCounts net, String text) {
        type(net, text);
        return net.batch();
    }

    static int pick(RingCounts net, String text) {
        type(net, text);
        return net.pick();
    }

    static String spelled(RingCounts net) {
        StringBuilder text = new StringBuilder();
        int length = net.spell();
        for (int i = 0; i < length; i++) {
            text.append((char) net.paper(i));
        }
        return text.toString();
    }

    static long bits(int... vertices) {
        long bits = 0;
        for (int v : vertices) {
            bits |= 1L << v;
        }
        return bits;
    }

    /** A new net behind the BATCHES, part by part. */
    static RingCounts net(String batch) {
        RingCounts net = new RingCounts();
        for (String part : batch.split(";")) {
            batch(net, part);
        }
        return net;
    }

    /** VERTICES 0 .. n - 1, each two joined. */
    static RingCounts whole(int n) {
        RingCounts net = new RingCounts();
        for (int u = 0; u < n; u++) {
            for (int v = u + 1; v < n; v++) {
                net.add(u, v, 1);
            }
        }
        return net;
    }

    /** What the net is, told by few calls: so that it can be looked at twice within 512. */
    static String lookAt(RingCounts net) {
        StringBuilder look = new StringBuilder();
        for (int what = 0; what < 14; what++) {
            look.append(net.told(what)).append(' ');
        }
        for (int u = 0; u < 40; u++) {
            look.append(net.near(u)).append(' ');
        }
        return look.append(net.picked()).append(' ').append(net.value()).toString();
    }

    /** All that can be asked without an argument of its own, in one text: to see that nothing was changed. */
    static String stateOf(RingCounts net) {
        StringBuilder state = new StringBuilder();
        for (int what = 0; what < 14; what++) {
            state.append(net.told(what)).append(' ');
        }
        for (int u = 0; u < 40; u++) {
            for (int v = u + 1; v < 40; v++) {
                if (net.two(u, v, 3) == 1) {
                    state.append(u).append('-').append(v).append('=').append(net.worth(u, v)).append(' ');
                }
            }
        }
        state.append("picked ").append(net.picked()).append(" paper ");
        for (int i = 0; net.paper(i) >= 0; i++) {
            state.append((char) net.paper(i));
        }
        for (int list = 0; list < 6; list++) {
            state.append(" list");
            for (int i = 0; net.get(list, i) != RingCounts.NO; i++) {
                state.append(' ').append(net.get(list, i));
            }
        }
        return state.toString();
    }
}
