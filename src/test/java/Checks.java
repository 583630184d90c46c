/** What the tests of the project share: answers held against those that are due, and texts put on the tape. */
final class Checks {
    interface Call {
        Object run();
    }

    private static int made;
    private static int wrong;

    private Checks() {
    }

    static void due(String call, long got, long want) {
        made++;
        if (got != want) {
            wrong++;
            if (wrong <= 50) {
                System.out.println(call + " answered " + got + ", due is " + want);
            }
        }
    }

    static void holds(String call, boolean got) {
        due(call, got ? 1 : 0, 1);
    }

    static void fails(String call, boolean got) {
        due(call, got ? 1 : 0, 0);
    }

    /** Just this exception, none above or below it. */
    static void thrown(String call, Class<? extends RuntimeException> want, Call made) {
        String got;
        try {
            got = "answered " + made.run();
        } catch (RuntimeException e) {
            got = e.getClass() == want ? null : "threw " + e;
        }
        Checks.made++;
        if (got != null) {
            wrong++;
            if (wrong <= 50) {
                System.out.println(call + " " + got + ", due is " + want.getSimpleName());
            }
        }
    }

    /** Puts a text on the tape in place of what it has. */
    static void tape(OrderlyNets nets, String text) {
        nets.end(0);
        for (int i = 0; i < text.length(); i += 20) {
            nets.feed(word(text, i), word(text, i + 4), word(text, i + 8), word(text, i + 12), word(text, i + 16));
        }
        nets.end(text.length());
    }

    private static int word(String text, int from) {
        int word = 0;
        for (int i = from; i < from + 4; i++) {
            word = word << 8 | (i < text.length() ? text.charAt(i) & 255 : 0);
        }
        return word;
    }

    static OrderlyNets ofKind(String text) {
        OrderlyNets nets = new OrderlyNets();
        kind(nets, text);
        return nets;
    }

    static int kind(OrderlyNets nets, String text) {
        tape(nets, text);
        return nets.kind();
    }

    static int told(OrderlyNets nets, String text) {
        tape(nets, text);
        return nets.told();
    }

    static String written(OrderlyNets nets) {
        StringBuilder text = new StringBuilder();
        for (int i = 0; nets.octet(i) != OrderlyNets.NONE; i++) {
            text.append((char) nets.octet(i));
        }
        return text.toString();
    }

    static void end(String name) {
        System.out.println(name + ": " + made + " checks, " + wrong + " wrong");
        if (wrong != 0) {
            System.exit(1);
        }
    }
}
