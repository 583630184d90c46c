import java.lang.reflect.InvocationTargetException;
import java.lang.reflect.Method;
import java.lang.reflect.Modifier;
import java.util.NoSuchElementException;
import java.util.TreeMap;

/** What the tests of the project share: answers held against those that are due, and texts put on the tape. */
class Checks {
    static final Class<IndexOutOfBoundsException> INDEX = IndexOutOfBoundsException.class;
    static final Class<IllegalArgumentException> ARGUMENT = IllegalArgumentException.class;
    static final Class<IllegalStateException> STATE = IllegalStateException.class;
    static final Class<NoSuchElementException> ELEMENT = NoSuchElementException.class;
    static final int NONE = OrderlyNets.NONE;
    static final int LEAST = Integer.MIN_VALUE;
    static final int MOST = Integer.MAX_VALUE;

    /** On the tape of an object whose calls are refused: 13 bytes. */
    private static final String ON_THE_TAPE = "nodes 2; even";

    interface Call {
        Object run();
    }

    interface Asked {
        Object of(OrderlyNets x);
    }

    private static int made;
    private static int wrong;
    private static String test = "";
    private static int madeInTest;

    // ---- answers

    static void due(String call, long got, long want) {
        made++;
        if (got != want) {
            tellWrong(call + " answered " + got + ", due is " + want);
        }
    }

    static void is(long got, long want) {
        madeInTest++;
        due("check " + madeInTest, got, want);
    }

    static void is(String got, String want) {
        madeInTest++;
        made++;
        if (!got.equals(want)) {
            tellWrong("check " + madeInTest + " answered <" + got + ">, due is <" + want + ">");
        }
    }

    static void yes(boolean got) {
        is(got ? 1 : 0, 1);
    }

    static void no(boolean got) {
        is(got ? 1 : 0, 0);
    }

    static void holds(String call, boolean got) {
        due(call, got ? 1 : 0, 1);
    }

    static void fails(String call, boolean got) {
        due(call, got ? 1 : 0, 0);
    }

    /** Just this exception, none above or below it. */
    static void thrown(String call, Class<? extends RuntimeException> want, Call asked) {
        String got;
        try {
            got = "answered " + asked.run();
        } catch (RuntimeException e) {
            got = e.getClass() == want ? null : "threw " + e;
        }
        made++;
        if (got != null) {
            tellWrong(call + " " + got + ", due is " + want.getSimpleName());
        }
    }

    static void throwing(Class<? extends RuntimeException> want, Call asked) {
        madeInTest++;
        thrown("check " + madeInTest, want, asked);
    }

    private static void tellWrong(String what) {
        wrong++;
        if (wrong <= 50) {
            System.out.println(test + what);
        }
    }

    // ---- refused calls: they throw, and leave all as it was

    /** An object of a kind of which as much is kept as can be: an image, two walkers, what is told and written. */
    static OrderlyNets busy(String kind) {
        OrderlyNets x = ofKind(kind);
        told(x, "net 1");
        x.start(1, 1, 1, 0);
        x.next(1);
        x.image();
        x.start(0, x.count(0), 2, 0);
        x.next(0);
        x.resume(1, 0);
        x.text(1, 0);
        tape(x, "nodes 99");
        thrown("a wrong text", ARGUMENT, () -> x.kind());
        tape(x, ON_THE_TAPE);
        return x;
    }

    /** All that can be seen but for the tape and fault(). */
    static String seen(OrderlyNets x) {
        StringBuilder seen = new StringBuilder();
        for (int what = 0; what < 6; what++) {
            seen.append(x.count(what)).append(' ');
        }
        for (int n = 1; n <= x.count(0); n++) {
            int amount = x.level(n);
            seen.append("level ").append(amount).append(' ');
            if (amount > 0) {
                seen.append(x.net(n, amount - 1, 0)).append(' ').append(x.net(n, amount - 1, 11)).append(' ');
            }
        }
        seen.append("full ").append(x.full(NONE));
        seen.append(" form ").append(shown(() -> x.form(0))).append(shown(() -> x.form(1)));
        seen.append(" order ").append(shown(() -> x.order(0)));
        for (int walker = 0; walker < 3; walker++) {
            int asked = walker;
            for (int what = 0; what < 3; what++) {
                int number = what;
                seen.append(" walker ").append(shown(() -> x.walker(asked, number)));
            }
        }
        return seen.append(" <").append(written(x)).append('>').toString();
    }

    private static String shown(Call call) {
        try {
            return call.run() + " ";
        } catch (RuntimeException e) {
            return e.getClass().getSimpleName() + " ";
        }
    }

    /** A call that throws just this, and behind which all is as it was, the tape, fault() and the image too. */
    static void refused(String kind, Class<? extends RuntimeException> want, Asked call) {
        OrderlyNets x = busy(kind);
        String before = seen(x);
        throwing(want, () -> call.of(x));
        is(seen(x), before);
        is(x.fault(), 6);
        no(x.end(14));
        yes(x.end(13));
        is(x.kind(), 2);
        yes(x.back());
        OrderlyNets y = busy(kind);
        y.back();
        is(seen(x), seen(y));
    }

    // ---- texts

    /** Puts a text on the tape in place of what it has. */
    static void tape(OrderlyNets nets, String text) {
        nets.end(0);
        for (int i = 0; i < text.length(); i += 20) {
            nets.feed(word(text, i), word(text, i + 4), word(text, i + 8), word(text, i + 12), word(text, i + 16));
        }
        nets.end(text.length());
    }

    private static int word(String text, int from) {
        int word = 0;
        for (int i = from; i < from + 4; i++) {
            word = word << 8 | (i < text.length() ? text.charAt(i) & 255 : 0);
        }
        return word;
    }

    static OrderlyNets ofKind(String text) {
        OrderlyNets nets = new OrderlyNets();
        kind(nets, text);
        return nets;
    }

    static int kind(OrderlyNets nets, String text) {
        tape(nets, text);
        return nets.kind();
    }

    static int told(OrderlyNets nets, String text) {
        tape(nets, text);
        return nets.told();
    }

    static String written(OrderlyNets nets) {
        StringBuilder text = new StringBuilder();
        for (int i = 0; nets.octet(i) != OrderlyNets.NONE; i++) {
            text.append((char) nets.octet(i));
        }
        return text.toString();
    }

    /** A text of a kind that is right, and so many nets on its last level. */
    static OrderlyNets rightKind(String text, int nets) {
        OrderlyNets x = new OrderlyNets();
        tape(x, "nodes 99");
        thrown("a wrong text", ARGUMENT, () -> x.kind());
        tape(x, text);
        is(x.kind(), nets);
        is(x.fault(), NONE);
        no(x.end(1));
        return x;
    }

    /** A text of a kind, wrong first at the sign | (which is left out): it uses the tape up and changes no more. */
    static void wrongKind(String marked) {
        wrongText("nodes 3 dark; most 1; end least 1", marked, x -> x.kind());
    }

    /** A text of a net, wrong first at the sign | , where such a kind is told. */
    static void wrongNet(String kind, String marked) {
        wrongText(kind, marked, x -> x.told());
    }

    private static void wrongText(String kind, String marked, Asked call) {
        OrderlyNets x = busy(kind);
        String before = seen(x);
        tape(x, marked.replace("|", ""));
        throwing(ARGUMENT, () -> call.of(x));
        is(x.fault(), marked.indexOf('|'));
        no(x.end(1));
        is(seen(x), before);
        yes(x.back());
        OrderlyNets y = busy(kind);
        y.back();
        is(seen(x), seen(y));
    }

    // ---- runs of tests

    /** Runs each test of a class by itself: the methods without parameters whose names begin with promise. */
    static void runAll(Class<?> tests) {
        TreeMap<String, Method> found = new TreeMap<>();
        for (Method method : tests.getDeclaredMethods()) {
            if (method.getName().startsWith("promise") && Modifier.isStatic(method.getModifiers())) {
                found.put(method.getName(), method);
            }
        }
        for (Method method : found.values()) {
            test = tests.getName() + "." + method.getName() + ": ";
            madeInTest = 0;
            try {
                method.invoke(null);
            } catch (InvocationTargetException e) {
                tellWrong("ended by " + e.getCause());
            } catch (IllegalAccessException e) {
                tellWrong("cannot be called");
            }
            if (madeInTest == 0) {
                tellWrong("holds nothing");
            }
        }
        System.out.print(found.size() + " tests. ");
        end(tests.getName());
    }

    static void end(String name) {
        System.out.println(name + ": " + made + " checks, " + wrong + " wrong");
        if (wrong != 0) {
            System.exit(1);
        }
    }
}
