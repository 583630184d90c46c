import java.util.ArrayList;
import java.util.HashMap;
import java.util.List;
import java.util.Map;

/** Promises 2 to 6 and 25 to 37: long runs of calls, each held against a plain model of all that is kept. */
public final class WalkTests {
    private static final int MOST = Integer.MAX_VALUE;
    private static final String[] KINDS = {
        "nodes 1", "nodes 3", "nodes 5; free 3; end joined", "nodes 4 dark; unlike", "nodes 6; most 2; even",
        "nodes 3; without 2; without 2: 0 1", "nodes 2 dark; end least 1; end edges 1 to 1; end joined",
    };
    private static final String[] WRONG = {"", "nodes 7", "nodes 3; free", "net 1, 2", "nodes 6 dark", "net 1 dark 1"};
    private static final int[] WRONG_KIND_AT = {0, 6, 13, 0, 8, 0};
    private static final int[] WRONG_NET_AT = {0, 0, 0, 5, 0, -2};

    private static final Map<String, List<Integer>> SHARES = new HashMap<>();

    private static long seed = 20261118;
    private static OrderlyNets x;
    private static OrderlyNets twin;
    private static Kept now;
    private static Kept image;
    private static final List<Integer> TAPE = new ArrayList<>();
    private static int fault;
    private static int written;
    private static int toldNodes;

    /** What an image keeps. */
    private static final class Kept {
        int kind;
        final int[][] shares = new int[3][];

        Kept copy() {
            Kept copy = new Kept();
            copy.kind = kind;
            for (int w = 0; w < 3; w++) {
                copy.shares[w] = shares[w] == null ? null : shares[w].clone();
            }
            return copy;
        }
    }

    public static void main(String[] args) {
        for (int run = 0; run < 400; run++) {
            x = new OrderlyNets();
            now = new Kept();
            twin = new OrderlyNets();
            image = null;
            TAPE.clear();
            fault = -1;
            written = 0;
            toldNodes = 0;
            int calls = 0;
            while (calls < 470) {
                calls += step();
            }
        }
        Checks.end("WalkTests");
    }

    private static int random(int below) {
        seed = seed * 6364136223846793005L + 1442695040888963407L;
        return (int) ((seed >>> 33) % below);
    }

    private static int size() {
        return twin.count(0);
    }

    /** Makes some calls and answers how many at most. */
    private static int step() {
        switch (random(16)) {
            case 0: return tell();
            case 1: return tellWrong();
            case 2: return tellNet();
            case 3: return start();
            case 4: return resume();
            case 5: return image();
            case 6: return back();
            case 7: return share();
            case 8: return write();
            case 9: return tape();
            case 10: return counts();
            case 11: return readRubbish();
            default: return next();
        }
    }

    private static void put(String text) {
        Checks.tape(x, text);
        TAPE.clear();
    }

    private static int tell() {
        now = new Kept();
        now.kind = random(KINDS.length);
        twin = Checks.ofKind(KINDS[now.kind]);
        put(KINDS[now.kind]);
        Checks.due("kind", x.kind(), twin.level(size()));
        fault = -1;
        return 8;
    }

    private static int tellWrong() {
        int wrong = random(WRONG.length);
        boolean net = random(2) == 0;
        if (net && WRONG[wrong].equals("net 1 dark 1") || net && wrong == 0 && random(2) == 0) {
            put("net 1 dark 1");
            Checks.thrown("told", IllegalArgumentException.class, () -> x.told());
            fault = twin.count(1) == 1 ? 11 : 6;
        } else if (net) {
            put(WRONG[wrong]);
            Checks.thrown("told", IllegalArgumentException.class, () -> x.told());
            fault = WRONG_NET_AT[wrong];
        } else {
            put(WRONG[wrong]);
            Checks.thrown("kind", IllegalArgumentException.class, () -> x.kind());
            fault = WRONG_KIND_AT[wrong];
        }
        Checks.due("fault", x.fault(), fault);
        return 6;
    }

    private static int tellNet() {
        toldNodes = 1 + random(size());
        put("net " + toldNodes);
        Checks.due("told", x.told(), Checks.told(twin, "net " + toldNodes));
        fault = -1;
        return 5;
    }

    private static int readRubbish() {
        boolean net = random(2) == 0;
        TAPE.clear();
        x.end(0);
        for (int i = random(3); i > 0; i--) {
            x.feed(random(MOST), random(MOST), random(MOST), random(MOST), random(MOST));
        }
        x.feed(0x01000000 | random(1 << 24), random(MOST), 0, 0, 0);
        Checks.thrown("rubbish", IllegalArgumentException.class, () -> net ? x.told() : x.kind());
        Checks.holds("fault of rubbish", x.fault() >= 0 && x.fault() < 60);
        fault = x.fault();
        return 8;
    }

    private static List<Integer> netsOf(int d, int p, int i) {
        return SHARES.computeIfAbsent(KINDS[now.kind] + " " + d + " " + p + " " + i, key -> findNetsOf(d, p, i));
    }

    private static List<Integer> findNetsOf(int d, int p, int i) {
        List<Integer> nets = new ArrayList<>();
        int amount = twin.level(size());
        int size = size();
        for (int k = 0; k < amount; k++) {
            OrderlyNets fresh = Checks.ofKind(KINDS[now.kind]);
            int forbear = k;
            for (int n = size; n > d; n--) {
                forbear = fresh.net(n, forbear, 5);
            }
            if (forbear % p == i) {
                nets.add(k);
            }
        }
        return nets;
    }

    private static int share() {
        int d = random(size() + 3) - 1;
        int p = random(11);
        int i = random(p + 2) - 1;
        if (d < 1 || d > size() || p < 1 || p > 9 || i < 0 || i >= p) {
            Checks.thrown("share", IllegalArgumentException.class, () -> x.share(d, p, i));
        } else {
            Checks.due("share", x.share(d, p, i), netsOf(d, p, i).size());
        }
        return 1;
    }

    private static int start() {
        int walker = random(3);
        int d = 1 + random(size());
        int p = 1 + random(random(2) == 0 ? 2 : 9);
        int i = random(p);
        now.shares[walker] = new int[] {d, p, i, 0};
        Checks.due("start", x.start(walker, d, p, i), netsOf(d, p, i).size());
        return 1;
    }

    private static int next() {
        int walker = random(3);
        int[] share = now.shares[walker];
        if (share == null) {
            Checks.thrown("next", IllegalStateException.class, () -> x.next(walker));
            return 1;
        }
        List<Integer> nets = netsOf(share[0], share[1], share[2]);
        int times = 1 + random(4);
        for (int time = 0; time < times; time++) {
            boolean more = share[3] < nets.size();
            Checks.due("next", x.next(walker), more ? nets.get(share[3]) : -1);
            share[3] += more ? 1 : 0;
        }
        Checks.due("listed", x.walker(walker, 0), share[3]);
        Checks.due("left", x.walker(walker, 1), nets.size() - share[3]);
        Checks.due("latest", x.walker(walker, 2), share[3] == 0 ? -1 : nets.get(share[3] - 1));
        return 3 + times;
    }

    private static int resume() {
        int walker = random(3);
        int[] share = now.shares[walker];
        if (share == null) {
            Checks.thrown("resume", IllegalStateException.class, () -> x.resume(walker, 0));
            return 1;
        }
        int all = netsOf(share[0], share[1], share[2]).size();
        int n = random(all + 3) - 1;
        if (n < 0 || n > all) {
            Checks.thrown("resume", IllegalArgumentException.class, () -> x.resume(walker, n));
        } else {
            Checks.due("resume", x.resume(walker, n), share[3]);
            share[3] = n;
        }
        return 1;
    }

    private static int image() {
        if (random(3) == 0) {
            x.image();
            image = now.copy();
        }
        return 1;
    }

    private static int back() {
        if (image == null) {
            Checks.fails("back", x.back());
        } else {
            Checks.holds("back", x.back());
            now = image.copy();
            twin = Checks.ofKind(KINDS[now.kind]);
        }
        return 1;
    }

    private static int write() {
        int n = 1 + random(size());
        int k = random(twin.level(n) + 1);
        if (k == twin.level(n)) {
            Checks.thrown("text", IndexOutOfBoundsException.class, () -> x.text(n, k));
        } else {
            written = x.text(n, k);
            Checks.due("text", written, twin.text(n, k));
        }
        Checks.due("behind what is written", x.octet(written), -1);
        return 2;
    }

    private static int tape() {
        int much = random(4) * random(8);
        for (int i = 0; i < much; i++) {
            boolean room = TAPE.size() + 20 <= 400;
            for (int b = 0; b < 20 && room; b++) {
                TAPE.add(b);
            }
            Checks.due("feed", x.feed(1, 2, 3, 4, 5), room ? TAPE.size() : -1);
        }
        int n = random(440) - 20;
        boolean has = n >= 0 && n <= TAPE.size();
        Checks.due("end", x.end(n) ? 1 : 0, has ? 1 : 0);
        while (has && TAPE.size() > n) {
            TAPE.remove(TAPE.size() - 1);
        }
        return much + 1;
    }

    private static int counts() {
        int walkers = 0;
        for (int w = 0; w < 3; w++) {
            walkers |= now.shares[w] != null ? 1 << w : 0;
        }
        Checks.due("walkers", x.count(4), walkers);
        Checks.due("written", x.count(5), written);
        Checks.due("fault", x.fault(), fault);
        for (int what = 0; what < 4; what++) {
            Checks.due("count " + what, x.count(what), twin.count(what));
        }
        Checks.due("full", x.full(-1), twin.full(-1));
        Checks.due("level", x.level(size()), twin.level(size()));
        if (toldNodes == 0) {
            Checks.thrown("form", IllegalStateException.class, () -> x.form(0));
        } else {
            Checks.due("form", x.form(0), toldNodes);
            Checks.due("order", x.order(toldNodes - 1), toldNodes - 1);
        }
        return 12;
    }
}
