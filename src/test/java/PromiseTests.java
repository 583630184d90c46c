import java.util.NoSuchElementException;

/** Each promise by its number: ordinary inputs, edges and wrong inputs, with answers worked out by hand. */
public final class PromiseTests {
    private static final Class<IndexOutOfBoundsException> INDEX = IndexOutOfBoundsException.class;
    private static final Class<IllegalArgumentException> ARGUMENT = IllegalArgumentException.class;
    private static final Class<IllegalStateException> STATE = IllegalStateException.class;
    private static final Class<NoSuchElementException> ELEMENT = NoSuchElementException.class;
    private static final int LEAST = Integer.MIN_VALUE;
    private static final int MOST = Integer.MAX_VALUE;
    private static final int[] NOT_LEVELS = {LEAST, -1, 0, 4, 7, MOST};

    public static void main(String[] args) {
        newObject();
        feedAndEnd();
        kindAndTold();
        faultAndLevel();
        net();
        joinedAndOrbit();
        child();
        grownAndTaken();
        deckAndOther();
        within();
        rootedAndTurned();
        apartAndCommon();
        linesAndTwins();
        namedAndCycles();
        full();
        formAndOrder();
        share();
        startAndNext();
        walkerAndResume();
        textAndOctet();
        imageAndBack();
        count();
        noSuchNets();
        ofSeveralTheFirst();
        Checks.end("PromiseTests");
    }

    private static void due(String call, long got, long want) {
        Checks.due(call, got, want);
    }

    /** Promise 1. */
    private static void newObject() {
        due("NONE", OrderlyNets.NONE, -1);
        OrderlyNets x = new OrderlyNets();
        int[] counts = {1, 0, 0, 0, 0, 0};
        for (int what = 0; what < 6; what++) {
            due("1: count " + what, x.count(what), counts[what]);
        }
        due("1: fault", x.fault(), -1);
        due("1: level", x.level(1), 1);
        due("1: full", x.full(-1), 1);
        due("1: octet", x.octet(0), -1);
        Checks.fails("1: back", x.back());
        Checks.holds("1: the tape is empty", x.end(0));
        Checks.fails("1: the tape is empty", x.end(1));
        Checks.thrown("1: form", STATE, () -> x.form(0));
        Checks.thrown("1: order", STATE, () -> x.order(0));
        Checks.thrown("1: next", STATE, () -> x.next(2));
        OrderlyNets y = Checks.ofKind("nodes 4");
        due("1: objects have nothing in common", x.count(0) * 10 + y.count(0), 14);
    }

    /** Promises 2 and 3. */
    private static void feedAndEnd() {
        OrderlyNets x = new OrderlyNets();
        for (int i = 1; i <= 20; i++) {
            due("2: feed " + i, x.feed(0, -1, LEAST, MOST, 7), 20 * i);
        }
        due("2: feed beyond 400", x.feed(1, 1, 1, 1, 1), -1);
        Checks.fails("3: 401 of 400", x.end(401));
        Checks.holds("3: 400 of 400", x.end(400));
        Checks.fails("3: below 0", x.end(-1));
        Checks.fails("3: far below 0", x.end(LEAST));
        Checks.fails("3: far beyond", x.end(MOST));
        due("2: feed beyond 400 still", x.feed(1, 1, 1, 1, 1), -1);
        Checks.holds("3: 381", x.end(381));
        due("2: one byte too many", x.feed(1, 1, 1, 1, 1), -1);
        Checks.fails("3: 382 of 381", x.end(382));
        Checks.holds("3: 380", x.end(380));
        due("2: just 400", x.feed(1, 1, 1, 1, 1), 400);
        Checks.holds("3: 7", x.end(7));
        due("2: behind 7", x.feed(1, 1, 1, 1, 1), 27);
        Checks.holds("3: none", x.end(0));
        Checks.fails("3: none are left", x.end(1));
        due("2: nodes 3;free 3 bytes", x.feed(0x6e6f6465, 0x7320333b, 0x66726565, 0x20330000, -1), 20);
        Checks.holds("3: 14", x.end(14));
        due("2: the highest byte is the first", x.kind(), 3);
    }

    /** Promises 4 and 5; TextTests has the texts. */
    private static void kindAndTold() {
        OrderlyNets x = new OrderlyNets();
        due("4: nets", Checks.kind(x, "nodes 4; free 3"), 7);
        due("4: nets", Checks.kind(x, "nodes 4"), 11);
        due("4: without the rules of the kind ahead", x.count(2), 0);
        Checks.fails("4: the tape is used up", x.end(1));
        due("4: ends do not matter", Checks.kind(x, "nodes 4; end joined; end least 3"), 11);
        due("4: none is left", Checks.kind(x, "nodes 3; without 2; without 2: 0 1"), 0);
        due("4: no level 2 either", x.level(2), 0);
        due("4: full", x.full(-1), 0);
        x.start(0, 2, 1, 0);
        due("4: nets", Checks.kind(x, "nodes 2 dark"), 6);
        due("4: no walker has a share", x.count(4), 0);
        due("5: told", Checks.told(x, "net 2 dark 0: 1 0"), 3);
        Checks.fails("5: the tape is used up", x.end(1));
        Checks.kind(x, "nodes 3 dark; unlike");
        due("5: breaks a rule", Checks.told(x, "net 2: 0 1"), -1);
        due("5: it is told", x.form(1), 1);
        due("5: another level", Checks.told(x, "net 1 dark 0"), 1);
        Checks.tape(x, "net 4");
        Checks.thrown("5: a net too large", ARGUMENT, () -> x.told());
        due("5: what was told stays", x.form(0), 1);
        Checks.kind(x, "nodes 2");
        due("5: a kind leaves what is told", x.form(1), 1);
        Checks.thrown("4: an empty tape", ARGUMENT, () -> x.kind());
        Checks.thrown("5: an empty tape", ARGUMENT, () -> x.told());
    }

    /** Promises 6 and 7. */
    private static void faultAndLevel() {
        OrderlyNets x = new OrderlyNets();
        Checks.tape(x, "nodes 3; most 9");
        Checks.thrown("6: kind", ARGUMENT, () -> x.kind());
        due("6: fault", x.fault(), 14);
        due("6: fault again", x.fault(), 14);
        Checks.tape(x, "net 9");
        due("6: not read yet", x.fault(), 14);
        Checks.thrown("6: told", ARGUMENT, () -> x.told());
        due("6: fault of a net", x.fault(), 4);
        Checks.told(x, "net 1");
        due("6: a right text", x.fault(), -1);
        Checks.kind(x, "nodes 5 dark");
        int[] dark = {2, 6, 20, 90, 544};
        for (int n = 1; n <= 5; n++) {
            due("7: dark level " + n, x.level(n), dark[n - 1]);
        }
        Checks.kind(x, "nodes 6");
        int[] light = {1, 2, 4, 11, 34, 156};
        for (int n = 1; n <= 6; n++) {
            due("7: level " + n, x.level(n), light[n - 1]);
        }
        for (int n : new int[] {LEAST, -1, 0, 7, MOST}) {
            Checks.thrown("7: level " + n, INDEX, () -> x.level(n));
        }
        Checks.kind(x, "nodes 3");
        for (int n : NOT_LEVELS) {
            Checks.thrown("7: level " + n, INDEX, () -> x.level(n));
        }
    }

    /** Promise 8, by the path, the circle and the star of four nodes, and a dark net. */
    private static void net() {
        OrderlyNets x = Checks.ofKind("nodes 4; end joined; end edges 4 to 5; end least 2");
        int path = Checks.told(x, "net 4: 0 1, 1 2, 2 3");
        int circle = Checks.told(x, "net 4: 0 1, 1 2, 2 3, 3 0");
        int star = Checks.told(x, "net 4: 0 1, 0 2, 0 3");
        int tail = Checks.told(x, "net 4: 0 1, 1 2, 2 0, 0 3");
        int two = Checks.told(x, "net 4: 0 1, 2 3");
        int[][] want = {
            {path, 21, 3, 2, 2, 12, 1, 0, 1, 3, 0, 0, 0},
            {circle, 54, 4, 8, 1, 15, 2, 0, 1, 2, 4, 0, 1},
            {star, 7, 3, 6, 2, 8, 0, 0, 1, 2, 0, 0, 0},
            {tail, 23, 4, 2, 3, 8, 1, 0, 1, 2, 3, 0, 0},
            {two, 20, 2, 8, 1, 15, 1, 0, 2, -1, 0, 0, 0},
        };
        for (int[] row : want) {
            for (int what = 0; what < 12; what++) {
                due("8: net(4, " + row[0] + ", " + what + ")", x.net(4, row[0], what), row[what + 1]);
            }
        }
        int[] notWhat = {LEAST, -1, 12, MOST};
        for (int what : notWhat) {
            Checks.thrown("8: what " + what, ELEMENT, () -> x.net(4, 0, what));
        }
        due("8: children", x.net(3, 0, 6), 4);
        due("8: no parent", x.net(1, 0, 5), -1);
        OrderlyNets y = Checks.ofKind("nodes 3 dark");
        int k = Checks.told(y, "net 3 dark 1 2: 0 1");
        int[] mixed = {22, 1, 1, 3, 4, 2, 0, 2, -1, 0, 6, 1};
        for (int what = 0; what < 12; what++) {
            due("8: dark net, what " + what, y.net(3, k, what), mixed[what]);
        }
    }

    /** Promises 9 and 10. */
    private static void joinedAndOrbit() {
        OrderlyNets x = Checks.ofKind("nodes 3");
        Checks.holds("9: 0 2", x.joined(3, 2, 0, 2));
        Checks.holds("9: 2 1", x.joined(3, 2, 2, 1));
        Checks.fails("9: 0 1", x.joined(3, 2, 0, 1));
        Checks.fails("9: itself", x.joined(3, 3, 1, 1));
        Checks.fails("9: dark is not joined", Checks.ofKind("nodes 1 dark").joined(1, 1, 0, 0));
        due("10: ends of a path", x.orbit(3, 2, 1), 0);
        due("10: the middle", x.orbit(3, 2, 2), 2);
        due("10: one edge, 0", x.orbit(3, 1, 0), 0);
        due("10: one edge, 2", x.orbit(3, 1, 2), 1);
        due("10: a dark one", Checks.ofKind("nodes 2 dark").orbit(2, 2, 1), 1);
        for (int node : new int[] {LEAST, -1, 3, 31, 32, MOST}) {
            Checks.thrown("9: a " + node, INDEX, () -> x.joined(3, 0, node, 0));
            Checks.thrown("9: b " + node, INDEX, () -> x.joined(3, 0, 0, node));
            Checks.thrown("10: " + node, INDEX, () -> x.orbit(3, 0, node));
        }
        Checks.thrown("9: 2 of level 2", INDEX, () -> x.joined(2, 0, 0, 2));
    }

    /** Promise 11. */
    private static void child() {
        OrderlyNets x = Checks.ofKind("nodes 3");
        int[] children = {0, 1, 2, -1};
        for (int i = 0; i < 4; i++) {
            due("11: child " + i, x.child(2, 0, i), children[i]);
        }
        due("11: the triangle", x.child(2, 1, 0), 3);
        due("11: no more", x.child(2, 1, 1), -1);
        due("11: below 0", x.child(2, 1, -1), -1);
        due("11: far below", x.child(2, 1, LEAST), -1);
        due("11: far beyond", x.child(2, 0, MOST), -1);
        due("11: none behind the last level", x.child(3, 0, 0), -1);
        OrderlyNets y = Checks.ofKind("nodes 4; free 3");
        due("11: the circle comes from the path", y.child(3, 2, 0), 6);
        due("11: two edges come from one", y.child(3, 1, 0), 4);
    }

    /** Promises 12 and 13. */
    private static void grownAndTaken() {
        OrderlyNets x = Checks.ofKind("nodes 4; free 3");
        due("12: star", x.grown(3, 2, 4, false), 3);
        Checks.fails("13: star by a leaf", x.taken(3, 2, 4, false));
        due("12: a triangle", x.grown(3, 2, 5, false), -1);
        Checks.fails("13: a triangle", x.taken(3, 2, 5, false));
        due("12: circle", x.grown(3, 2, 3, false), 6);
        Checks.holds("13: circle", x.taken(3, 2, 3, false));
        due("12: star from nothing", x.grown(3, 0, 7, false), 3);
        Checks.holds("13: star by its middle", x.taken(3, 0, 7, false));
        due("12: nothing", x.grown(3, 0, 0, false), 0);
        Checks.holds("13: nothing", x.taken(3, 0, 0, false));
        OrderlyNets y = Checks.ofKind("nodes 3 dark");
        due("12: light behind dark", y.grown(1, 1, 0, false), 2);
        Checks.fails("13: light behind dark", y.taken(1, 1, 0, false));
        Checks.holds("13: dark behind light", y.taken(1, 0, 0, true));
        for (int set : new int[] {LEAST, -1, 8, 9, 1 << 30, MOST}) {
            Checks.thrown("12: set " + set, ARGUMENT, () -> x.grown(3, 0, set, false));
            Checks.thrown("13: set " + set, ARGUMENT, () -> x.taken(3, 0, set, false));
        }
        Checks.thrown("12: dark", ARGUMENT, () -> x.grown(3, 0, 0, true));
        Checks.thrown("13: dark", ARGUMENT, () -> x.taken(3, 0, 0, true));
        Checks.thrown("12: the last level", STATE, () -> x.grown(4, 0, 15, false));
        Checks.thrown("13: the last level", STATE, () -> x.taken(4, 0, 15, false));
        Checks.thrown("12: a set and the last level", ARGUMENT, () -> x.grown(4, 0, 16, false));
        Checks.thrown("13: a set and the last level", ARGUMENT, () -> x.taken(4, 0, 16, false));
        Checks.thrown("12: dark and the last level", ARGUMENT, () -> x.grown(4, 0, 0, true));
        Checks.thrown("13: dark and the last level", ARGUMENT, () -> x.taken(4, 0, 0, true));
        Checks.thrown("12: no such net", INDEX, () -> x.grown(3, 3, -1, true));
        Checks.thrown("13: no such net", INDEX, () -> x.taken(3, 3, -1, true));
    }

    /** Promises 14 and 15. */
    private static void deckAndOther() {
        OrderlyNets x = Checks.ofKind("nodes 4; free 3");
        due("14: the path without its end", x.deck(4, 5, 0), x.deck(4, 5, 1));
        due("14: circle", x.deck(4, 6, 3), 2);
        due("14: star without its middle", x.deck(4, 3, 3), 0);
        due("14: star without a leaf", x.deck(4, 3, 0), 2);
        Checks.thrown("14: level 1", STATE, () -> x.deck(1, 0, 0));
        Checks.thrown("14: level 1, no node", INDEX, () -> x.deck(1, 0, 1));
        Checks.thrown("14: level 1, no net", INDEX, () -> x.deck(1, 1, 0));
        for (int node : new int[] {LEAST, -1, 4, 32, MOST}) {
            Checks.thrown("14: node " + node, INDEX, () -> x.deck(4, 0, node));
        }
        due("15: the path", x.other(4, 5), 5);
        due("15: the circle", x.other(4, 6), 4);
        due("15: two edges", x.other(4, 4), 6);
        due("15: the star breaks a rule", x.other(4, 3), -1);
        due("15: one node", x.other(1, 0), 0);
        OrderlyNets y = Checks.ofKind("nodes 2 dark");
        int[] other = {1, 0, 3, 2, 5, 4};
        for (int k = 0; k < 6; k++) {
            due("15: dark " + k, y.other(2, k), other[k]);
        }
    }

    /** Promise 16. */
    private static void within() {
        OrderlyNets x = Checks.ofKind("nodes 4");
        due("16: edges of all joined", x.within(4, 10, 2, 1), 6);
        due("16: triangles of all joined", x.within(4, 10, 3, 3), 4);
        due("16: paths of all joined, by themselves", x.within(4, 10, 3, 2), 0);
        due("16: itself", x.within(4, 5, 4, 5), 1);
        due("16: another one", x.within(4, 5, 4, 6), 0);
        due("16: nodes", x.within(4, 5, 1, 0), 4);
        due("16: a larger one", x.within(3, 0, 4, 0), 0);
        OrderlyNets y = Checks.ofKind("nodes 3 dark");
        int k = Checks.told(y, "net 3 dark 2: 0 2, 1 2");
        due("16: dark nodes", y.within(3, k, 1, 1), 1);
        due("16: light nodes", y.within(3, k, 1, 0), 2);
        due("16: light and dark, joined", y.within(3, k, 2, 3), 2);
        due("16: light and light", y.within(3, k, 2, 0), 1);
        Checks.thrown("16: no such second net", INDEX, () -> x.within(4, 0, 4, 11));
        Checks.thrown("16: no such second net", INDEX, () -> x.within(4, 0, 4, -1));
        Checks.thrown("16: no such second level", INDEX, () -> x.within(4, 0, 5, 0));
        Checks.thrown("16: no such second level", INDEX, () -> x.within(4, 0, 0, 0));
    }

    /** Promises 17 and 18. */
    private static void rootedAndTurned() {
        OrderlyNets x = Checks.ofKind("nodes 6");
        int[] rooted = {1, 2, 6, 20, 90, 544};
        for (int n = 1; n <= 6; n++) {
            due("17: rooted " + n, x.rooted(n), rooted[n - 1]);
        }
        due("17: none", Checks.ofKind("nodes 3; without 2; without 2: 0 1").rooted(3), 0);
        OrderlyNets y = Checks.ofKind("nodes 3; free 3");
        due("18: put in", y.turned(3, 0, 1, 2), 1);
        due("18: taken out", y.turned(3, 2, 2, 0), 1);
        due("18: put in, by the other side", y.turned(3, 1, 0, 1), 2);
        due("18: breaks a rule", y.turned(3, 2, 0, 1), -1);
        Checks.thrown("18: one node", ARGUMENT, () -> y.turned(3, 2, 2, 2));
        Checks.thrown("18: one node that is none", INDEX, () -> y.turned(3, 2, 3, 3));
        Checks.thrown("18: one node of a net that is none", INDEX, () -> y.turned(3, 3, 1, 1));
        for (int node : new int[] {LEAST, -1, 3, MOST}) {
            Checks.thrown("18: a " + node, INDEX, () -> y.turned(3, 0, node, 0));
            Checks.thrown("18: b " + node, INDEX, () -> y.turned(3, 0, 0, node));
        }
        for (int n : NOT_LEVELS) {
            Checks.thrown("17: rooted " + n, INDEX, () -> y.rooted(n));
        }
    }

    /** Promises 19 and 20. */
    private static void apartAndCommon() {
        OrderlyNets x = Checks.ofKind("nodes 4; free 3");
        due("19: path, circle", x.apart(4, 5, 6), 1);
        due("19: star, circle", x.apart(4, 3, 6), 3);
        due("19: circle, star", x.apart(4, 6, 3), 3);
        due("19: star, path", x.apart(4, 3, 5), 2);
        due("19: nothing, circle", x.apart(4, 0, 6), 4);
        due("19: itself", x.apart(4, 4, 4), 0);
        due("19: all of six", Checks.ofKind("nodes 6").apart(6, 0, 155), 15);
        OrderlyNets y = Checks.ofKind("nodes 2 dark");
        due("19: as many dark", y.apart(2, 2, 3), 1);
        due("19: not as many", y.apart(2, 0, 2), -1);
        due("19: not as many", y.apart(2, 5, 3), -1);
        Checks.thrown("19: no such second net", INDEX, () -> x.apart(4, 0, 7));
        Checks.thrown("19: no such second net", INDEX, () -> x.apart(4, 0, -1));
        due("20: star, circle", x.common(4, 3, 4, 6), 3);
        due("20: two edges, star", x.common(4, 4, 4, 3), 2);
        due("20: itself", x.common(4, 4, 4, 4), 4);
        due("20: a part", x.common(3, 2, 4, 6), 3);
        due("20: a whole", x.common(4, 6, 3, 2), 3);
        due("20: light and dark", y.common(2, 0, 2, 4), 0);
        due("20: one of each", y.common(2, 2, 1, 1), 1);
        Checks.thrown("20: no such second level", INDEX, () -> x.common(4, 0, 5, 0));
        Checks.thrown("20: no such second net", INDEX, () -> x.common(4, 0, 3, 3));
    }

    /** Promises 21 and 22. */
    private static void linesAndTwins() {
        OrderlyNets x = Checks.ofKind("nodes 4");
        int path = Checks.told(x, "net 4: 0 1, 1 2, 2 3");
        int tail = Checks.told(x, "net 4: 0 1, 1 2, 2 0, 0 3");
        due("21: path", x.lines(4, path), 2);
        due("21: tail", x.lines(4, tail), 3);
        due("21: all joined", x.lines(4, 10), 1);
        due("21: none", x.lines(4, 0), 0);
        due("21: two edges", x.lines(4, Checks.told(x, "net 4: 0 1, 2 3")), 1);
        due("22: level 2", x.twins(2), 1);
        due("22: level 3", x.twins(3), 0);
        due("22: level 4", x.twins(4), 0);
        OrderlyNets y = Checks.ofKind("nodes 2 dark");
        due("22: dark", y.twins(2), 3);
        due("21: dark", y.lines(2, 3), 1);
        due("22: none", Checks.ofKind("nodes 3; without 2; without 2: 0 1").twins(3), 0);
        Checks.thrown("22: level 1", STATE, () -> x.twins(1));
        for (int n : new int[] {LEAST, -1, 0, 5, MOST}) {
            Checks.thrown("22: level " + n, INDEX, () -> x.twins(n));
        }
    }

    /** Promises 23 and 24. */
    private static void namedAndCycles() {
        OrderlyNets x = Checks.ofKind("nodes 6; forest");
        long[] forests = {1, 2, 7, 38, 291, 2932};
        for (int n = 1; n <= 6; n++) {
            due("23: forests " + n, x.named(n), forests[n - 1]);
        }
        due("23: dark", Checks.ofKind("nodes 5 dark").named(5), 32 * 1024);
        due("23: ends do not matter", Checks.ofKind("nodes 3; end joined").named(3), 8);
        for (int n : new int[] {LEAST, -1, 0, 7, MOST}) {
            Checks.thrown("23: level " + n, INDEX, () -> x.named(n));
        }
        long[] light = {1, 2, 4, 11, 34, 156};
        for (int n = 1; n <= 6; n++) {
            due("24: cycles " + n, x.cycles(n, -1), light[n - 1]);
        }
        long[] six = {1, 1, 2, 5, 9, 15, 21, 24, 24, 21, 15, 9, 5, 2, 1, 1};
        for (int e = 0; e < 16; e++) {
            due("24: cycles 6, " + e, x.cycles(6, e), six[e]);
        }
        due("24: more edges than pairs", x.cycles(2, 2), 0);
        due("24: beyond the size", new OrderlyNets().cycles(6, 15), 1);
        OrderlyNets y = Checks.ofKind("nodes 1 dark");
        long[] dark = {2, 6, 20, 90, 544};
        for (int n = 1; n <= 5; n++) {
            due("24: dark " + n, y.cycles(n, -1), dark[n - 1]);
        }
        due("24: dark without edges", y.cycles(5, 0), 6);
        due("24: dark with one", y.cycles(2, 1), 3);
        Checks.thrown("24: dark 6", ARGUMENT, () -> y.cycles(6, 0));
        for (int n : new int[] {LEAST, -1, 0, 7, MOST}) {
            Checks.thrown("24: nodes " + n, ARGUMENT, () -> x.cycles(n, 0));
        }
        for (int e : new int[] {LEAST, -2, 16, MOST}) {
            Checks.thrown("24: edges " + e, ARGUMENT, () -> x.cycles(3, e));
        }
    }

    /** Promise 25. */
    private static void full() {
        OrderlyNets x = Checks.ofKind("nodes 4; end least 2");
        int[] full = {8, 9, 10, -1};
        for (int k = 0; k < 4; k++) {
            due("25: full " + k, x.full(k), full[k]);
        }
        due("25: how many", x.full(-1), 3);
        due("25: below", x.full(-2), -1);
        due("25: far below", x.full(LEAST), -1);
        due("25: far beyond", x.full(MOST), -1);
        OrderlyNets y = Checks.ofKind("nodes 4; end joined; end edges 3 to 3");
        due("25: trees", y.full(-1), 2);
        due("25: without ends", Checks.ofKind("nodes 4").full(-1), 11);
        OrderlyNets z = Checks.ofKind("nodes 4; end edges 7 to 15");
        due("25: none", z.full(-1), 0);
        due("25: none", z.full(0), -1);
    }

    /** Promises 26 and 27. */
    private static void formAndOrder() {
        OrderlyNets x = Checks.ofKind("nodes 4");
        Checks.told(x, "net 4: 0 1, 1 2, 2 3");
        int[] form = {4, 21, 2, 3};
        for (int what = 0; what < 4; what++) {
            due("26: form " + what, x.form(what), form[what]);
        }
        // 21 is 0 00 001 0101: the ends of the path come first, then the node next to the second one.
        int[] order = {0, 3, 2, 1};
        for (int place = 0; place < 4; place++) {
            due("27: place " + place, x.order(place), order[place]);
        }
        for (int place : new int[] {LEAST, -1, 4, MOST}) {
            Checks.thrown("27: place " + place, INDEX, () -> x.order(place));
        }
        for (int what : new int[] {LEAST, -1, 4, MOST}) {
            Checks.thrown("26: what " + what, ELEMENT, () -> x.form(what));
            Checks.thrown("26: what " + what, ELEMENT, () -> new OrderlyNets().form(what));
        }
        Checks.thrown("26: nothing told", STATE, () -> new OrderlyNets().form(0));
        Checks.thrown("27: nothing told", STATE, () -> new OrderlyNets().order(0));
        Checks.thrown("27: nothing told, no place", STATE, () -> new OrderlyNets().order(-1));
        Checks.told(x, "net 2: 1 0");
        due("27: the lesser node first", x.order(0) * 10 + x.order(1), 1);
        Checks.kind(x, "nodes 2 dark");
        Checks.told(x, "net 2 dark 0");
        due("27: the light node first", x.order(0) * 10 + x.order(1), 10);
        due("26: dark form", x.form(1), 2);
        due("26: dark symmetries", x.form(2), 1);
    }

    /** Promise 28. */
    private static void share() {
        OrderlyNets x = Checks.ofKind("nodes 3");
        due("28: all", x.share(1, 1, 0), 4);
        due("28: of nothing", x.share(2, 2, 0), 3);
        due("28: of an edge", x.share(2, 2, 1), 1);
        due("28: the last level", x.share(3, 3, 0), 2);
        due("28: the last level", x.share(3, 3, 1), 1);
        due("28: none", x.share(2, 9, 8), 0);
        due("28: it changes nothing", x.count(4), 0);
        for (int d : NOT_LEVELS) {
            Checks.thrown("28: d " + d, ARGUMENT, () -> x.share(d, 1, 0));
        }
        for (int p : new int[] {LEAST, -1, 0, 10, MOST}) {
            Checks.thrown("28: p " + p, ARGUMENT, () -> x.share(1, p, 0));
        }
        for (int i : new int[] {LEAST, -1, 3, MOST}) {
            Checks.thrown("28: i " + i, ARGUMENT, () -> x.share(1, 3, i));
        }
    }

    /** Promises 29 and 30. */
    private static void startAndNext() {
        OrderlyNets x = Checks.ofKind("nodes 3");
        due("29: start", x.start(0, 2, 2, 0), 3);
        due("29: start", x.start(2, 3, 2, 1), 2);
        due("29: walkers", x.count(4), 5);
        int[] listed = {0, 1, 2, -1, -1};
        for (int i = 0; i < 5; i++) {
            due("30: next " + i, x.next(0), listed[i]);
        }
        due("30: another walker", x.next(2), 1);
        due("30: another walker", x.next(2), 3);
        due("30: another walker", x.next(2), -1);
        due("30: all are listed still", x.walker(2, 0), 2);
        due("29: told anew", x.start(0, 2, 2, 1), 1);
        due("29: none are listed", x.walker(0, 0), 0);
        due("30: next", x.next(0), 3);
        due("29: an empty share", x.start(1, 2, 9, 8), 0);
        due("29: it is one", x.count(4), 7);
        due("30: of an empty share", x.next(1), -1);
        Checks.thrown("29: refused", ARGUMENT, () -> x.start(0, 4, 1, 0));
        Checks.thrown("29: refused", ARGUMENT, () -> x.start(0, 1, 10, 0));
        Checks.thrown("29: refused", ARGUMENT, () -> x.start(0, 1, 1, 1));
        Checks.thrown("29: refused", ARGUMENT, () -> x.start(0, 1, 1, -1));
        due("29: refused, nothing is changed", x.walker(0, 2), 3);
        for (int walker : new int[] {LEAST, -1, 3, MOST}) {
            Checks.thrown("29: walker " + walker, INDEX, () -> x.start(walker, 1, 1, 0));
            Checks.thrown("29: walker " + walker + ", no share", INDEX, () -> x.start(walker, 0, 0, 0));
            Checks.thrown("30: walker " + walker, INDEX, () -> x.next(walker));
        }
        Checks.kind(x, "nodes 3");
        due("29: a kind takes the shares", x.count(4), 0);
        for (int walker = 0; walker < 3; walker++) {
            int number = walker;
            Checks.thrown("30: no share", STATE, () -> x.next(number));
        }
    }

    /** Promises 31 and 32. */
    private static void walkerAndResume() {
        OrderlyNets x = Checks.ofKind("nodes 4; free 3");
        x.start(1, 3, 2, 0);
        int[][] states = {{0, 5, -1}, {1, 4, 0}, {2, 3, 1}};
        for (int[] state : states) {
            for (int what = 0; what < 3; what++) {
                due("31: what " + what + " behind " + state[0], x.walker(1, what), state[what]);
            }
            x.next(1);
        }
        due("32: from 3", x.resume(1, 5), 3);
        due("31: the latest", x.walker(1, 2), 6);
        due("31: none left", x.walker(1, 1), 0);
        due("30: all are listed", x.next(1), -1);
        due("32: from 5", x.resume(1, 0), 5);
        due("31: no latest", x.walker(1, 2), -1);
        due("32: from 0", x.resume(1, 4), 0);
        due("30: goes on", x.next(1), 6);
        due("32: from 5", x.resume(1, 4), 5);
        due("31: the latest", x.walker(1, 2), 3);
        for (int n : new int[] {LEAST, -1, 6, MOST}) {
            Checks.thrown("32: resume " + n, ARGUMENT, () -> x.resume(1, n));
            Checks.thrown("32: no share, resume " + n, STATE, () -> x.resume(0, n));
            Checks.thrown("32: no walker, resume " + n, INDEX, () -> x.resume(3, n));
        }
        due("32: refused, nothing is changed", x.walker(1, 0), 4);
        for (int what : new int[] {LEAST, -1, 3, MOST}) {
            Checks.thrown("31: what " + what, ELEMENT, () -> x.walker(1, what));
            Checks.thrown("31: no share, what " + what, ELEMENT, () -> x.walker(0, what));
            Checks.thrown("31: no walker, what " + what, INDEX, () -> x.walker(-1, what));
        }
        Checks.thrown("31: no share", STATE, () -> x.walker(2, 0));
        Checks.thrown("31: no walker", INDEX, () -> x.walker(3, 0));
        Checks.thrown("32: no walker", INDEX, () -> x.resume(-1, 0));
    }

    private static void written(OrderlyNets x, int n, int k, String want) {
        due("33: text " + n + " " + k, x.text(n, k), want.length());
        due("33: <" + Checks.written(x) + "> for <" + want + ">", Checks.written(x).equals(want) ? 1 : 0, 1);
        due("37: count(5)", x.count(5), want.length());
    }

    /** Promises 33 and 34. */
    private static void textAndOctet() {
        OrderlyNets x = Checks.ofKind("nodes 6");
        written(x, 6, 155, "net 6 : 0 1, 0 2, 0 3, 0 4, 0 5, 1 2, 1 3, 1 4, 1 5, 2 3, 2 4, 2 5, 3 4, 3 5, 4 5");
        written(x, 1, 0, "net 1");
        written(x, 3, 2, "net 3 : 0 2, 1 2");
        due("34: first", x.octet(0), 'n');
        due("34: last", x.octet(15), '2');
        due("34: beyond", x.octet(16), -1);
        due("34: below", x.octet(-1), -1);
        due("34: far beyond", x.octet(MOST), -1);
        due("34: far below", x.octet(LEAST), -1);
        Checks.thrown("33: no such net", INDEX, () -> x.text(3, 4));
        due("33: refused, what was written stays", x.octet(15), '2');
        Checks.kind(x, "nodes 5 dark");
        due("33: a kind leaves what is written", x.count(5), 16);
        written(x, 2, 3, "net 2 dark 1 : 0 1");
        written(x, 3, 16, "net 3 dark 0 1 2");
        written(x, 5, 543, "net 5 dark 0 1 2 3 4 : 0 1, 0 2, 0 3, 0 4, 1 2, 1 3, 1 4, 2 3, 2 4, 3 4");
    }

    /** Promises 35 and 36. */
    private static void imageAndBack() {
        OrderlyNets x = new OrderlyNets();
        Checks.fails("36: no image", x.back());
        Checks.kind(x, "nodes 4; free 3; without 4; even; end least 1; end joined");
        x.start(1, 3, 2, 0);
        x.next(1);
        x.image();
        x.next(1);
        x.start(0, 1, 1, 0);
        Checks.kind(x, "nodes 2 dark; unlike");
        x.start(2, 1, 1, 0);
        Checks.told(x, "net 2 dark 1: 0 1");
        x.text(2, 3);
        x.feed(1, 2, 3, 4, 5);
        Checks.holds("36: back", x.back());
        due("36: size", x.count(0), 4);
        due("36: dark", x.count(1), 0);
        due("36: rules", x.count(2), 3);
        due("36: ends", x.count(3), 2);
        due("36: walkers", x.count(4), 2);
        due("36: nets", x.level(4), 6);
        due("36: full", x.full(-1), 3);
        due("36: listed", x.walker(1, 0), 1);
        due("36: goes on", x.next(1), 1);
        due("36: what is told stays", x.form(1), 3);
        due("36: what is written stays", x.count(5), 14);
        Checks.holds("36: the tape stays", x.end(20));
        due("36: the rules count", x.grown(3, 0, 0, false), -1);
        Checks.holds("36: back once more", x.back());
        due("36: listed", x.walker(1, 0), 1);
        Checks.tape(x, "nodes 9");
        Checks.thrown("36: wrong", ARGUMENT, () -> x.kind());
        Checks.holds("36: back", x.back());
        due("36: fault stays", x.fault(), 6);
        Checks.kind(x, "nodes 3");
        x.image();
        Checks.kind(x, "nodes 5");
        Checks.holds("35: the image is one", x.back());
        due("35: the latest one", x.count(0), 3);
        due("35: without walkers", x.count(4), 0);
    }

    /** Promise 37. */
    private static void count() {
        OrderlyNets x = Checks.ofKind("nodes 4 dark; free 3; free 3; unlike; end least 1; end joined");
        x.start(1, 1, 1, 0);
        x.start(2, 1, 1, 0);
        x.text(1, 1);
        int[] counts = {4, 1, 3, 2, 6, 12};
        for (int what = 0; what < 6; what++) {
            due("37: count " + what, x.count(what), counts[what]);
        }
        for (int what : new int[] {LEAST, -1, 6, MOST}) {
            due("37: count " + what, x.count(what), -1);
        }
    }

    /** Promises 8 to 21 and 33: there is no such level or net. */
    private static void noSuchNets() {
        OrderlyNets x = Checks.ofKind("nodes 3");
        for (int n : NOT_LEVELS) {
            noSuchNet(x, n, 0);
        }
        for (int k : new int[] {LEAST, -1, 4, MOST}) {
            noSuchNet(x, 3, k);
        }
        noSuchNet(x, 2, 2);
    }

    private static void noSuchNet(OrderlyNets x, int n, int k) {
        String of = " of level " + n + ", net " + k;
        Checks.thrown("8: net" + of, INDEX, () -> x.net(n, k, 0));
        Checks.thrown("8: net, no what" + of, INDEX, () -> x.net(n, k, 12));
        Checks.thrown("9: joined" + of, INDEX, () -> x.joined(n, k, 0, 0));
        Checks.thrown("10: orbit" + of, INDEX, () -> x.orbit(n, k, 0));
        Checks.thrown("11: child" + of, INDEX, () -> x.child(n, k, 0));
        Checks.thrown("12: grown" + of, INDEX, () -> x.grown(n, k, 0, false));
        Checks.thrown("13: taken" + of, INDEX, () -> x.taken(n, k, 0, false));
        Checks.thrown("14: deck" + of, INDEX, () -> x.deck(n, k, 0));
        Checks.thrown("15: other" + of, INDEX, () -> x.other(n, k));
        Checks.thrown("16: within" + of, INDEX, () -> x.within(n, k, 1, 0));
        Checks.thrown("16: within, the second" + of, INDEX, () -> x.within(1, 0, n, k));
        Checks.thrown("18: turned" + of, INDEX, () -> x.turned(n, k, 0, 1));
        Checks.thrown("19: apart" + of, INDEX, () -> x.apart(n, k, 0));
        Checks.thrown("19: apart, the second" + of, INDEX, () -> x.apart(n, 0, k));
        Checks.thrown("20: common" + of, INDEX, () -> x.common(n, k, 1, 0));
        Checks.thrown("20: common, the second" + of, INDEX, () -> x.common(1, 0, n, k));
        Checks.thrown("21: lines" + of, INDEX, () -> x.lines(n, k));
        Checks.thrown("33: text" + of, INDEX, () -> x.text(n, k));
    }

    /** Of several exceptions the one told first. */
    private static void ofSeveralTheFirst() {
        OrderlyNets x = Checks.ofKind("nodes 2");
        Checks.thrown("8: net and what", INDEX, () -> x.net(2, 9, 12));
        Checks.thrown("12: node, dark and level", INDEX, () -> x.grown(2, 2, 4, true));
        Checks.thrown("14: node and level", INDEX, () -> x.deck(1, 0, 1));
        Checks.thrown("18: net and node", INDEX, () -> x.turned(2, 2, 0, 0));
        Checks.thrown("26: what and nothing told", ELEMENT, () -> x.form(9));
        Checks.thrown("27: nothing told and place", STATE, () -> x.order(9));
        Checks.thrown("29: walker and share", INDEX, () -> x.start(9, 9, 9, 9));
        Checks.thrown("31: walker, what and share", INDEX, () -> x.walker(9, 9));
        Checks.thrown("31: what and share", ELEMENT, () -> x.walker(0, 9));
        Checks.thrown("32: walker, share and number", INDEX, () -> x.resume(9, 9));
        Checks.thrown("32: share and number", STATE, () -> x.resume(0, -9));
    }
}
