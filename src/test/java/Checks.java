/** Counts what was asked and prints each answer that is not the one that is due. */
final class Checks {
    private final String name;
    private int asked = 0;
    private int wrong = 0;

    Checks(String name) {
        this.name = name;
    }

    void due(String call, long want, long got) {
        asked++;
        if (want != got) {
            wrong++;
            if (wrong <= 50) {
                System.out.println(name + ": " + call + " answered " + got + ", due is " + want);
            }
        }
    }

    void dueText(String call, String want, String got) {
        asked++;
        if (!want.equals(got)) {
            wrong++;
            System.out.println(name + ": " + call + " answered '" + got + "', due is '" + want + "'");
        }
    }

    void holds(String claim, boolean holds) {
        due(claim, 1, holds ? 1 : 0);
    }

    int wrong() {
        return wrong;
    }

    /** Ends the program with exit code 1, if one answer was not as due. */
    void end() {
        System.out.println(name + ": " + asked + " asked, " + wrong + " wrong");
        if (wrong != 0 || asked == 0) {
            System.exit(1);
        }
    }

    /** Puts a text on the tape. */
    static void type(RingCounts net, String text) {
        for (int i = 0; i < text.length(); i++) {
            net.feed(text.charAt(i));
        }
    }

    static int batch(RingCounts net, String text) {
        type(net, text);
        return net.batch();
    }

    static int pick(RingCounts net, String text) {
        type(net, text);
        return net.pick();
    }

    static String spelled(RingCounts net) {
        StringBuilder text = new StringBuilder();
        int length = net.spell();
        for (int i = 0; i < length; i++) {
            text.append((char) net.paper(i));
        }
        return text.toString();
    }

    static long bits(int... vertices) {
        long bits = 0;
        for (int v : vertices) {
            bits |= 1L << v;
        }
        return bits;
    }

    /** All that can be asked without an argument of its own, in one text: to see that nothing was changed. */
    static String stateOf(RingCounts net) {
        StringBuilder state = new StringBuilder();
        for (int what = 0; what < 14; what++) {
            state.append(net.told(what)).append(' ');
        }
        for (int u = 0; u < 40; u++) {
            for (int v = u + 1; v < 40; v++) {
                if (net.two(u, v, 3) == 1) {
                    state.append(u).append('-').append(v).append('=').append(net.worth(u, v)).append(' ');
                }
            }
        }
        state.append("picked ").append(net.picked()).append(" paper ");
        for (int i = 0; net.paper(i) >= 0; i++) {
            state.append((char) net.paper(i));
        }
        for (int list = 0; list < 6; list++) {
            state.append(" list");
            for (int i = 0; net.get(list, i) != RingCounts.NO; i++) {
                state.append(' ').append(net.get(list, i));
            }
        }
        return state.toString();
    }
}
