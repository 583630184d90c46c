import java.util.Arrays;
import java.util.NoSuchElementException;

/**
 * All nets of a told kind, each just once, by their least form.
 *
 * A net is held as its number of nodes and one int, its code. A code of n nodes begins with the code of the first
 * n - 1 of them: so the parent of a net in its form is that code without its last n bits, the forbears are shorter
 * beginnings of it, and all that come from one net stand next to each other on every later level.
 */
public final class OrderlyNets {
    public static final int NONE = -1;

    private static final int MOST_NODES = 6;
    private static final int MOST_DARK_NODES = 5;
    private static final int MOST_EDGES = 15;
    private static final int MOST_PARTS = 9;
    private static final int MOST_WALKERS = 3;

    private final Tape tape = new Tape();
    private final Rules rules = new Rules();
    private final Rules draft = new Rules();
    private final Rules keptRules = new Rules();
    private final Levels levels = new Levels();
    private final Levels keptLevels = new Levels();
    private final Walkers walkers = new Walkers();
    private final Walkers keptWalkers = new Walkers();
    private boolean hasImage;
    private final Texts texts = new Texts();
    private final Page page = new Page();
    private final Forms forms = new Forms();
    private final Forms toldForms = new Forms();
    private final Sketch sketch = new Sketch();
    private final Match match = new Match();
    private final Cycles cycleSums = new Cycles();
    private final long[] decks = new long[Levels.MOST_ON_ONE];

    public OrderlyNets() {
        levels.fill(rules, sketch, forms);
    }

    public int feed(int a, int b, int c, int d, int e) {
        if (!tape.hasRoom()) {
            return NONE;
        }
        tape.append(a);
        tape.append(b);
        tape.append(c);
        tape.append(d);
        tape.append(e);
        return tape.length;
    }

    public boolean end(int n) {
        if (n < 0 || n > tape.length) {
            return false;
        }
        tape.length = n;
        return true;
    }

    public int kind() throws IllegalArgumentException {
        tape.begin();
        boolean right = texts.readKind(tape, draft);
        tape.finish(right);
        if (!right) {
            throw new IllegalArgumentException("the text of a kind is wrong");
        }
        rules.copyFrom(draft);
        rules.formPatterns(forms);
        levels.fill(rules, sketch, forms);
        walkers.clear();
        return levels.amount(rules.size);
    }

    public int told() throws IllegalArgumentException {
        tape.begin();
        boolean right = texts.readNet(tape, rules);
        tape.finish(right);
        if (!right) {
            throw new IllegalArgumentException("the text of a net is wrong");
        }
        return levels.numberOf(texts.nodes, toldForms.leastOf(texts.nodes, texts.code));
    }

    public int fault() {
        return tape.wrong;
    }

    public int level(int n) throws IndexOutOfBoundsException {
        needLevel(n);
        return levels.amount(n);
    }

    public int net(int n, int k, int what) throws IndexOutOfBoundsException, NoSuchElementException {
        int code = needNet(n, k);
        sketch.draw(n, code);
        switch (what) {
            case 0: return code;
            case 1: return Code.edges(n, code);
            case 2: return forms.symmetriesOf(n, code);
            case 3: return forms.unlikeNodes(n, code);
            case 4: return forms.lastNodes(n, code);
            case 5: return n == 1 ? NONE : levels.numberOf(n - 1, code >> n);
            case 6: return levels.heirs(n, k, n + 1);
            case 7: return sketch.pieces();
            case 8: return sketch.width();
            case 9: return sketch.shortestCircle();
            case 10: return sketch.darks;
            case 11: return rules.endsKept(n, code, sketch) ? 1 : 0;
            default: throw new NoSuchElementException("a net has no such number");
        }
    }

    public boolean joined(int n, int k, int a, int b) throws IndexOutOfBoundsException {
        int code = needNet(n, k);
        needNode(n, a);
        needNode(n, b);
        return Code.areJoined(n, code, a, b);
    }

    public int orbit(int n, int k, int node) throws IndexOutOfBoundsException {
        int code = needNet(n, k);
        needNode(n, node);
        return forms.leastLike(n, code, node);
    }

    public int child(int n, int k, int i) throws IndexOutOfBoundsException {
        needNet(n, k);
        if (i < 0 || i >= levels.heirs(n, k, n + 1)) {
            return NONE;
        }
        return levels.firstHeir(n, k, n + 1) + i;
    }

    public int grown(int n, int k, int set, boolean dark)
            throws IndexOutOfBoundsException, IllegalArgumentException, IllegalStateException {
        int code = needGrown(n, k, set, dark);
        return levels.numberOf(n + 1, forms.leastOf(n + 1, code));
    }

    public boolean taken(int n, int k, int set, boolean dark)
            throws IndexOutOfBoundsException, IllegalArgumentException, IllegalStateException {
        int code = needGrown(n, k, set, dark);
        int last = forms.lastNodes(n + 1, code);
        return (last >> n & 1) == 1 && levels.numberOf(n + 1, forms.least) != NONE;
    }

    public int deck(int n, int k, int node) throws IndexOutOfBoundsException, IllegalStateException {
        int code = needNet(n, k);
        needNode(n, node);
        if (n == 1) {
            throw new IllegalStateException("nothing is left without the only node");
        }
        return numberWithout(n, code, node);
    }

    public int other(int n, int k) throws IndexOutOfBoundsException {
        int code = needNet(n, k);
        return levels.numberOf(n, forms.leastOf(n, code ^ Code.allEdges(n)));
    }

    public int within(int n, int k, int m, int j) throws IndexOutOfBoundsException {
        int whole = needNet(n, k);
        int part = needNet(m, j);
        return forms.partsLike(n, whole, m, part);
    }

    public int rooted(int n) throws IndexOutOfBoundsException {
        needLevel(n);
        int sum = 0;
        for (int k = 0; k < levels.amount(n); k++) {
            sum += forms.unlikeNodes(n, levels.codeOf(n, k));
        }
        return sum;
    }

    public int turned(int n, int k, int a, int b) throws IndexOutOfBoundsException, IllegalArgumentException {
        int code = needNet(n, k);
        needNode(n, a);
        needNode(n, b);
        if (a == b) {
            throw new IllegalArgumentException("a node is not joined to itself");
        }
        return levels.numberOf(n, forms.leastOf(n, code ^ Code.edge(n, a, b)));
    }

    public int apart(int n, int k, int j) throws IndexOutOfBoundsException {
        int from = needNet(n, k);
        int to = needNet(n, j);
        return match.fewestTurns(n, from, to);
    }

    public int common(int n, int k, int m, int j) throws IndexOutOfBoundsException {
        int one = needNet(n, k);
        int two = needNet(m, j);
        return match.mostAlike(n, one, m, two);
    }

    public int lines(int n, int k) throws IndexOutOfBoundsException {
        return forms.unlikeEdges(n, needNet(n, k));
    }

    public int twins(int n) throws IndexOutOfBoundsException, IllegalStateException {
        needLevel(n);
        if (n == 1) {
            throw new IllegalStateException("nets of one node have no deck");
        }
        int amount = Math.min(levels.amount(n), decks.length);
        int found = 0;
        for (int k = 0; k < amount; k++) {
            long deck = wholeDeck(n, levels.codeOf(n, k));
            decks[k] = deck;
            for (int j = 0; j < k; j++) {
                if (decks[j] == deck) {
                    found++;
                }
            }
        }
        return found;
    }

    public long named(int n) throws IndexOutOfBoundsException {
        needLevel(n);
        long orders = Cycles.orders(n);
        long sum = 0;
        for (int k = 0; k < levels.amount(n); k++) {
            int symmetries = forms.symmetriesOf(n, levels.codeOf(n, k));
            if (symmetries > 0) {
                sum += orders / symmetries;
            }
        }
        return sum;
    }

    public long cycles(int n, int e) throws IllegalArgumentException {
        if (n < 1 || n > (rules.hasDark ? MOST_DARK_NODES : MOST_NODES)) {
            throw new IllegalArgumentException("no such number of nodes");
        }
        if (e < NONE || e > MOST_EDGES) {
            throw new IllegalArgumentException("no such number of edges");
        }
        return cycleSums.unlikeNets(n, e, rules.hasDark);
    }

    public int full(int k) {
        if (k < NONE) {
            return NONE;
        }
        int found = 0;
        for (int number = 0; number < levels.amount(rules.size); number++) {
            int code = levels.codeOf(rules.size, number);
            sketch.draw(rules.size, code);
            if (rules.endsKept(rules.size, code, sketch)) {
                if (found == k) {
                    return number;
                }
                found++;
            }
        }
        return k == NONE ? found : NONE;
    }

    public int form(int what) throws NoSuchElementException, IllegalStateException {
        if (what < 0 || what > 3) {
            throw new NoSuchElementException("what is told has no such number");
        }
        needTold();
        switch (what) {
            case 0: return toldForms.nodes;
            case 1: return toldForms.least;
            case 2: return toldForms.symmetries;
            default: return Code.edges(toldForms.nodes, toldForms.least);
        }
    }

    public int order(int place) throws IllegalStateException, IndexOutOfBoundsException {
        needTold();
        if (place < 0 || place >= toldForms.nodes) {
            throw new IndexOutOfBoundsException("no such place");
        }
        return Forms.nodeAt(toldForms.firstOrder, place);
    }

    public int share(int d, int p, int i) throws IllegalArgumentException {
        needShare(d, p, i);
        return levels.shareSize(rules.size, d, p, i);
    }

    public int start(int walker, int d, int p, int i) throws IndexOutOfBoundsException, IllegalArgumentException {
        needWalker(walker);
        needShare(d, p, i);
        walkers.give(walker, d, p, i);
        return shareOf(walker);
    }

    public int next(int walker) throws IndexOutOfBoundsException, IllegalStateException {
        needWalker(walker);
        needShareOf(walker);
        int listed = walkers.listed(walker);
        if (listed >= shareOf(walker)) {
            return NONE;
        }
        walkers.setListed(walker, listed + 1);
        return listedLast(walker);
    }

    public int walker(int walker, int what)
            throws IndexOutOfBoundsException, NoSuchElementException, IllegalStateException {
        needWalker(walker);
        if (what < 0 || what > 2) {
            throw new NoSuchElementException("a walker has no such number");
        }
        needShareOf(walker);
        switch (what) {
            case 0: return walkers.listed(walker);
            case 1: return shareOf(walker) - walkers.listed(walker);
            default: return listedLast(walker);
        }
    }

    public int resume(int walker, int n)
            throws IndexOutOfBoundsException, IllegalStateException, IllegalArgumentException {
        needWalker(walker);
        needShareOf(walker);
        if (n < 0 || n > shareOf(walker)) {
            throw new IllegalArgumentException("the share has not so many nets");
        }
        int before = walkers.listed(walker);
        walkers.setListed(walker, n);
        return before;
    }

    public int text(int n, int k) throws IndexOutOfBoundsException {
        page.writeNet(n, needNet(n, k));
        return page.length;
    }

    public int octet(int k) {
        return page.at(k);
    }

    public void image() {
        keptRules.copyFrom(rules);
        keptLevels.copyFrom(levels);
        keptWalkers.copyFrom(walkers);
        hasImage = true;
    }

    public boolean back() {
        if (!hasImage) {
            return false;
        }
        rules.copyFrom(keptRules);
        levels.copyFrom(keptLevels);
        walkers.copyFrom(keptWalkers);
        return true;
    }

    public int count(int what) {
        switch (what) {
            case 0: return rules.size;
            case 1: return rules.hasDark ? 1 : 0;
            case 2: return rules.ruleLines;
            case 3: return rules.endLines;
            case 4: return walkers.withShare();
            case 5: return page.length;
            default: return NONE;
        }
    }

    private void needLevel(int n) {
        if (n < 1 || n > rules.size) {
            throw new IndexOutOfBoundsException("no such level");
        }
    }

    private int needNet(int n, int k) {
        needLevel(n);
        if (k < 0 || k >= levels.amount(n)) {
            throw new IndexOutOfBoundsException("no such net");
        }
        return levels.codeOf(n, k);
    }

    private void needNode(int n, int node) {
        if (node < 0 || node >= n) {
            throw new IndexOutOfBoundsException("no such node");
        }
    }

    private void needWalker(int walker) {
        if (walker < 0 || walker >= MOST_WALKERS) {
            throw new IndexOutOfBoundsException("no such walker");
        }
    }

    private void needShareOf(int walker) {
        if (!walkers.hasShare(walker)) {
            throw new IllegalStateException("the walker has no share");
        }
    }

    private void needShare(int d, int p, int i) {
        if (d < 1 || d > rules.size || p < 1 || p > MOST_PARTS || i < 0 || i >= p) {
            throw new IllegalArgumentException("no such share");
        }
    }

    private void needTold() {
        if (toldForms.nodes == 0) {
            throw new IllegalStateException("no net is told");
        }
    }

    private int needGrown(int n, int k, int set, boolean dark) {
        int code = needNet(n, k);
        if (set < 0 || set >= 1 << n) {
            throw new IllegalArgumentException("a node of the set is none");
        }
        if (dark && !rules.hasDark) {
            throw new IllegalArgumentException("no node may be dark");
        }
        if (n == rules.size) {
            throw new IllegalStateException("no level comes behind");
        }
        return Code.grow(n, code, set, dark);
    }

    private int numberWithout(int n, int code, int node) {
        int left = Code.part(n, code, (1 << n) - 1 ^ 1 << node);
        return levels.numberOf(n - 1, forms.leastOf(n - 1, left));
    }

    /** The numbers of a deck in one long, sorted: two decks are the same just if these are. */
    private long wholeDeck(int n, int code) {
        long deck = 0;
        for (int node = 0; node < n; node++) {
            deck = withSorted(deck, numberWithout(n, code, node) + 1);
        }
        return deck;
    }

    /** Ten bits a number, the greatest lowest; 0 is an empty place. */
    private static long withSorted(long deck, long number) {
        long sorted = 0;
        long carried = number;
        for (int at = 0; at < 10 * MOST_NODES; at += 10) {
            long here = deck >> at & 1023;
            sorted |= Math.max(here, carried) << at;
            carried = Math.min(here, carried);
        }
        return sorted;
    }

    private int shareOf(int walker) {
        return levels.shareSize(rules.size, walkers.depth(walker), walkers.parts(walker), walkers.part(walker));
    }

    private int listedLast(int walker) {
        int place = walkers.listed(walker) - 1;
        int depth = walkers.depth(walker);
        return levels.shareNumber(rules.size, depth, walkers.parts(walker), walkers.part(walker), place);
    }

    /** The codes of nets: what stands at which bit, and the codes of the nets that come of one. */
    private static final class Code {
        static int bits(int n) {
            return n * (n + 1) / 2;
        }

        static int dark(int n, int node) {
            return 1 << bits(n) - 1 - bits(node);
        }

        static int edge(int n, int a, int b) {
            return 1 << bits(n) - 2 - bits(Math.max(a, b)) - Math.min(a, b);
        }

        static int allColours(int n) {
            int all = 0;
            for (int node = 0; node < n; node++) {
                all |= dark(n, node);
            }
            return all;
        }

        static int allEdges(int n) {
            return (1 << bits(n)) - 1 ^ allColours(n);
        }

        static boolean areJoined(int n, int code, int a, int b) {
            return a != b && (code & edge(n, a, b)) != 0;
        }

        static int edges(int n, int code) {
            return Integer.bitCount(code & allEdges(n));
        }

        static int darkNodes(int n, int code) {
            return Integer.bitCount(code & allColours(n));
        }

        static int grow(int n, int code, int set, boolean dark) {
            int longer = code << 1 | (dark ? 1 : 0);
            for (int node = 0; node < n; node++) {
                longer = longer << 1 | set >> node & 1;
            }
            return longer;
        }

        static int part(int n, int code, int set) {
            int left = 0;
            for (int node = 0; node < n; node++) {
                if ((set >> node & 1) == 1) {
                    left = left << 1 | ((code & dark(n, node)) != 0 ? 1 : 0);
                    for (int earlier = 0; earlier < node; earlier++) {
                        if ((set >> earlier & 1) == 1) {
                            left = left << 1 | ((code & edge(n, earlier, node)) != 0 ? 1 : 0);
                        }
                    }
                }
            }
            return left;
        }
    }

    /** One net drawn for quick looks: who is joined to whom, and the shape that this makes. */
    private static final class Sketch {
        private final int[] near = new int[MOST_NODES];
        private final long[] fans = new long[MOST_NODES];
        private int nodes;
        private int darks;
        private long colours;

        void draw(int n, int code) {
            nodes = Math.min(n, MOST_NODES);
            darks = 0;
            colours = 0;
            for (int node = 0; node < nodes; node++) {
                near[node] = 0;
                fans[node] = 0;
            }
            int bit = Code.bits(nodes) - 1;
            for (int node = 0; node < nodes; node++) {
                int dark = code >> bit & 1;
                darks |= dark << node;
                colours |= (long) dark << 8 * node;
                bit--;
                for (int earlier = 0; earlier < node; earlier++) {
                    if ((code >> bit & 1) == 1) {
                        join(earlier, node);
                        join(node, earlier);
                    }
                    bit--;
                }
            }
        }

        private void join(int from, int to) {
            if (from >= 0 && from < near.length && from < fans.length) {
                near[from] |= 1 << to;
                fans[from] |= 1L << 8 * to;
            }
        }

        /**
         * Eight bits a node, so that the blocks of all nodes grow at once: blocks behind a node more are the blocks
         * ahead, moved by one bit, with the fan of that node. With no node ahead they are the colours.
         */
        static int block(long blocks, int node) {
            return (int) (blocks >> 8 * node) & 63;
        }

        long fan(int node) {
            return node >= 0 && node < fans.length ? fans[node] : 0;
        }

        int nearOf(int node) {
            return node >= 0 && node < near.length ? near[node] : 0;
        }

        int mostNear() {
            int most = 0;
            for (int node = 0; node < nodes; node++) {
                most = Math.max(most, Integer.bitCount(nearOf(node)));
            }
            return most;
        }

        int leastNear() {
            int least = MOST_NODES;
            for (int node = 0; node < nodes; node++) {
                least = Math.min(least, Integer.bitCount(nearOf(node)));
            }
            return least;
        }

        boolean joinsOneColour() {
            for (int node = 0; node < nodes; node++) {
                int sameColour = (darks >> node & 1) == 1 ? darks : ~darks;
                if ((nearOf(node) & sameColour) != 0) {
                    return true;
                }
            }
            return false;
        }

        private int oneStepOn(int set) {
            int reached = set;
            for (int node = 0; node < nodes; node++) {
                if ((set >> node & 1) == 1) {
                    reached |= nearOf(node);
                }
            }
            return reached;
        }

        int pieces() {
            int found = 0;
            int reached = 0;
            for (int node = 0; node < nodes; node++) {
                if ((reached >> node & 1) == 0) {
                    found++;
                    int piece = 1 << node;
                    for (int steps = 1; steps < nodes; steps++) {
                        piece = oneStepOn(piece);
                    }
                    reached |= piece;
                }
            }
            return found;
        }

        int width() {
            int all = (1 << nodes) - 1;
            int farthest = 0;
            for (int node = 0; node < nodes; node++) {
                int reached = 1 << node;
                int steps = 0;
                while (reached != all && steps < nodes) {
                    reached = oneStepOn(reached);
                    steps++;
                }
                if (reached != all) {
                    return NONE;
                }
                farthest = Math.max(farthest, steps);
            }
            return farthest;
        }

        /** NONE of an empty set. */
        static int lowest(int set) {
            for (int bit = 0; bit < 31; bit++) {
                if ((set >> bit & 1) == 1) {
                    return bit;
                }
            }
            return NONE;
        }

        /** Bit by bit, of how many nodes there are circles. */
        int circles() {
            int found = 0;
            for (int node = 0; node < nodes; node++) {
                found |= closeFrom(node, node, 1 << node, 1);
            }
            return found;
        }

        int shortestCircle() {
            return Math.max(0, lowest(circles()));
        }

        private int closeFrom(int first, int last, int used, int length) {
            int found = length > 2 && (nearOf(last) >> first & 1) == 1 ? 1 << length : 0;
            if (length >= nodes) {
                return found;
            }
            // A circle is walked from its least node alone, or it would be found once for each.
            for (int node = first + 1; node < nodes; node++) {
                if (((nearOf(last) & ~used) >> node & 1) == 1) {
                    found |= stepTo(node, first, used, length);
                }
            }
            return found;
        }

        private int stepTo(int node, int first, int used, int length) {
            return closeFrom(first, node, used | 1 << node, length + 1);
        }
    }

    /** Looks for the least code of all orders of a net, and for the orders that have it. */
    private static final class Forms {
        private final Sketch sketch = new Sketch();
        private int nodes;
        private int allBits;
        private boolean isTest;
        private boolean isBeaten;
        private boolean isStudy;
        private long order;
        private int least;
        private int symmetries;
        private long firstOrder;
        private long seen;
        private int stillEdges;

        static int nodeAt(long order, int place) {
            return (int) (order >> 3 * place) & 7;
        }

        boolean isForm(int n, int code) {
            begin(n, code);
            isTest = true;
            least = code;
            placeNext(0, 0, 0, sketch.colours);
            return !isBeaten;
        }

        int leastOf(int n, int code) {
            begin(n, code);
            placeNext(0, 0, 0, sketch.colours);
            return least;
        }

        int symmetriesOf(int n, int code) {
            leastOf(n, code);
            return symmetries;
        }

        /** How many sets of nodes of a net are like the net of a form. */
        int partsLike(int n, int code, int m, int form) {
            int found = 0;
            for (int set = 0; set < 1 << n; set++) {
                if (Integer.bitCount(set) == m) {
                    int part = Code.part(n, code, set);
                    // The form is dear: it is not looked for where there are not as many edges and dark nodes.
                    boolean asMany = Integer.bitCount(part) == Integer.bitCount(form);
                    if (asMany && leastOf(m, part) == form) {
                        found++;
                    }
                }
            }
            return found;
        }

        int unlikeNodes(int n, int code) {
            study(n, code);
            int found = 0;
            for (int node = 0; node < nodes; node++) {
                if (leastSeenWith(node) == node) {
                    found++;
                }
            }
            return found;
        }

        int leastLike(int n, int code, int node) {
            study(n, code);
            return leastSeenWith(node);
        }

        int lastNodes(int n, int code) {
            study(n, code);
            return seenAt(nodes - 1);
        }

        /** As many as the symmetries leave where they are, on the mean. */
        int unlikeEdges(int n, int code) {
            study(n, code);
            return symmetries > 0 ? stillEdges / symmetries : 0;
        }

        private void begin(int n, int code) {
            sketch.draw(n, code);
            nodes = sketch.nodes;
            allBits = Code.bits(nodes);
            isTest = false;
            isBeaten = false;
            isStudy = false;
            least = (1 << allBits) - 1;
            symmetries = 0;
        }

        private void study(int n, int code) {
            begin(n, code);
            isStudy = true;
            placeNext(0, 0, 0, sketch.colours);
        }

        private int seenAt(int place) {
            return (int) (seen >> 6 * place) & 63;
        }

        private int leastSeenWith(int node) {
            for (int place = 0; place < nodes; place++) {
                if ((seenAt(place) >> node & 1) == 1) {
                    return Sketch.lowest(seenAt(place));
                }
            }
            return node;
        }

        private void placeNext(int depth, int used, int code, long blocks) {
            if (depth >= nodes) {
                arrive(code);
                return;
            }
            // Behind one beginning only the nodes with the least block can lead to the least code.
            int lowest = 64;
            int set = 0;
            for (int node = 0; node < nodes; node++) {
                int block = Sketch.block(blocks, node);
                if ((used >> node & 1) == 0 && block <= lowest) {
                    set = block < lowest ? 1 << node : set | 1 << node;
                    lowest = block;
                }
            }
            int longer = code << depth + 1 | lowest;
            int unset = allBits - Code.bits(depth + 1);
            if (isTest && longer < least >> unset) {
                isBeaten = true;
            }
            for (int node = 0; node < nodes && !isBeaten && longer <= least >> unset; node++) {
                if ((set >> node & 1) == 1) {
                    place(node, depth, used, longer, blocks);
                }
            }
        }

        private void place(int node, int depth, int used, int code, long blocks) {
            order = order & ~(7L << 3 * depth) | (long) node << 3 * depth;
            placeNext(depth + 1, used | 1 << node, code, blocks << 1 | sketch.fan(node));
        }

        private void arrive(int code) {
            // Nodes are tried from the least on: the first order that is found is the first of all.
            if (code < least || symmetries == 0) {
                least = code;
                symmetries = 0;
                firstOrder = order;
                seen = 0;
                stillEdges = 0;
            }
            symmetries++;
            int bit = allBits;
            for (int place = 0; place < nodes && isStudy; place++) {
                long node = order >> 3 * place & 7;
                long firstNode = firstOrder >> 3 * place & 7;
                seen |= 1L << 6 * place + node;
                bit--;
                for (int earlier = 0; earlier < place; earlier++) {
                    bit--;
                    long ends = 1L << node | 1L << (order >> 3 * earlier & 7);
                    long firstEnds = 1L << firstNode | 1L << (firstOrder >> 3 * earlier & 7);
                    if ((code >> bit & 1) == 1 && ends == firstEnds) {
                        stillEdges++;
                    }
                }
            }
        }
    }

    /** Lays the nodes of one net on those of another one. */
    private static final class Match {
        private final Sketch one = new Sketch();
        private final Sketch two = new Sketch();
        private int code;
        private int best;

        int fewestTurns(int n, int from, int to) {
            if (Code.darkNodes(n, from) != Code.darkNodes(n, to)) {
                return NONE;
            }
            one.draw(n, from);
            two.draw(n, to);
            code = from;
            best = MOST_EDGES + 1;
            layNext(0, 0, 0, two.colours);
            return best;
        }

        private void layNext(int depth, int used, int turns, long blocks) {
            if (turns >= best) {
                return;
            }
            if (depth >= one.nodes) {
                best = turns;
                return;
            }
            int unset = Code.bits(one.nodes) - Code.bits(depth + 1);
            int wanted = code >> unset & (2 << depth) - 1;
            for (int node = 0; node < two.nodes; node++) {
                int unlike = wanted ^ Sketch.block(blocks, node);
                boolean sameColour = unlike >> depth == 0;
                if (sameColour && (used >> node & 1) == 0) {
                    lay(node, depth, used, turns + Integer.bitCount(unlike), blocks);
                }
            }
        }

        private void lay(int node, int depth, int used, int turns, long blocks) {
            layNext(depth + 1, used | 1 << node, turns, blocks << 1 | two.fan(node));
        }

        int mostAlike(int n, int first, int m, int second) {
            one.draw(n, first);
            two.draw(m, second);
            best = 0;
            pairNext(0, 0, 0, one.colours, two.colours);
            return best;
        }

        private void pairNext(int node, int used, int size, long ones, long twos) {
            best = Math.max(best, size);
            int left = Math.min(one.nodes - node, two.nodes - size);
            if (left <= 0 || size + left <= best) {
                return;
            }
            int wanted = Sketch.block(ones, node);
            for (int mate = 0; mate < two.nodes; mate++) {
                if ((used >> mate & 1) == 0 && Sketch.block(twos, mate) == wanted) {
                    pair(node, used | 1 << mate, size, ones, twos << 1 | two.fan(mate));
                }
            }
            leaveOut(node, used, size, ones, twos);
        }

        private void leaveOut(int node, int used, int size, long ones, long twos) {
            pairNext(node + 1, used, size, ones, twos);
        }

        private void pair(int node, int used, int size, long ones, long twos) {
            pairNext(node + 1, used, size + 1, ones << 1 | one.fan(node), twos);
        }
    }

    /** Counts nets without any rules by the mean of those that an order of the nodes leaves as they are. */
    private static final class Cycles {
        private final int[] parts = new int[MOST_NODES];
        private final long[] ways = new long[MOST_EDGES + 1];
        private int edges;
        private boolean hasDark;

        static long orders(int n) {
            long orders = 1;
            for (int node = 2; node <= n; node++) {
                orders *= node;
            }
            return orders;
        }

        long unlikeNets(int n, int e, boolean dark) {
            edges = e;
            hasDark = dark;
            return splitNext(0, n, n, orders(n)) / Math.max(1, orders(n));
        }

        /** All ways to split the nodes that are left into cycles, none longer than the one ahead. */
        private long splitNext(int depth, int left, int most, long orders) {
            if (left <= 0 || depth >= parts.length) {
                return alike(depth, orders) * fixedNets(depth);
            }
            long sum = 0;
            for (int part = Math.min(left, most); part > 0; part--) {
                sum += split(part, depth, left, orders);
            }
            return sum;
        }

        private long split(int part, int depth, int left, long orders) {
            if (depth >= 0 && depth < parts.length) {
                parts[depth] = part;
            }
            return splitNext(depth + 1, left - part, part, orders);
        }

        private int partAt(int i) {
            return i >= 0 && i < parts.length ? parts[i] : 0;
        }

        /** How many orders have cycles of just these lengths. */
        private long alike(int amount, long orders) {
            long shared = 1;
            int equal = 0;
            for (int i = 0; i < amount; i++) {
                equal = i > 0 && partAt(i) == partAt(i - 1) ? equal + 1 : 1;
                shared *= partAt(i) * equal;
            }
            return shared > 0 ? orders / shared : 0;
        }

        private long fixedNets(int amount) {
            Arrays.fill(ways, 0);
            ways[0] = 1;
            for (int i = 0; i < amount; i++) {
                int part = partAt(i);
                addCycles((part - 1) / 2, part);
                addCycles(part % 2 == 0 ? 1 : 0, part / 2);
                for (int j = 0; j < i; j++) {
                    int shared = commonDivisor(part, partAt(j));
                    addCycles(shared, shared > 0 ? part / shared * partAt(j) : 0);
                }
            }
            long sum = 0;
            for (int e = 0; e < ways.length; e++) {
                sum += edges == NONE || edges == e ? ways[e] : 0;
            }
            return hasDark ? sum << amount : sum;
        }

        /** Some cycles of pairs of nodes, of which each is joined as a whole or not. */
        private void addCycles(int amount, int pairs) {
            for (int i = 0; i < amount; i++) {
                for (int e = ways.length - 1; e >= pairs && pairs > 0; e--) {
                    ways[e] += ways[e - pairs];
                }
            }
        }

        private static int commonDivisor(int a, int b) {
            for (int divisor = Math.min(a, b); divisor > 1; divisor--) {
                if (a % divisor == 0 && b % divisor == 0) {
                    return divisor;
                }
            }
            return 1;
        }
    }

    /** What a text told of the kind. */
    private static final class Rules {
        private static final int WORD_MOST = 1;
        private static final int WORD_EVEN = 2;
        private static final int WORD_FOREST = 4;
        private static final int WORD_UNLIKE = 8;
        private static final int WORD_JOINED = 16;
        private static final int WORD_EDGES = 32;
        private static final int WORD_LEAST = 64;
        private static final int ODD_CIRCLES = 1 << 3 | 1 << 5;
        private static final int ALL_CIRCLES = 1 << 3 | 1 << 4 | 1 << 5 | 1 << 6;
        private static final int MOST_PATTERNS = 2;

        private int size;
        private boolean hasDark;
        private int words;
        private int ruleLines;
        private int endLines;
        private int most;
        private int bannedCircles;
        private boolean unlike;
        private int patterns;
        private final int[] patternNodes = new int[MOST_PATTERNS];
        private final int[] patternCodes = new int[MOST_PATTERNS];
        private boolean endsJoined;
        private int fewestEdges;
        private int mostEdges;
        private int least;

        Rules() {
            clear();
        }

        void clear() {
            size = 1;
            hasDark = false;
            words = 0;
            ruleLines = 0;
            endLines = 0;
            most = MOST_NODES - 1;
            bannedCircles = 0;
            unlike = false;
            patterns = 0;
            endsJoined = false;
            fewestEdges = 0;
            mostEdges = MOST_EDGES;
            least = 0;
        }

        void copyFrom(Rules from) {
            size = from.size;
            hasDark = from.hasDark;
            words = from.words;
            ruleLines = from.ruleLines;
            endLines = from.endLines;
            most = from.most;
            bannedCircles = from.bannedCircles;
            unlike = from.unlike;
            patterns = from.patterns;
            System.arraycopy(from.patternNodes, 0, patternNodes, 0, MOST_PATTERNS);
            System.arraycopy(from.patternCodes, 0, patternCodes, 0, MOST_PATTERNS);
            endsJoined = from.endsJoined;
            fewestEdges = from.fewestEdges;
            mostEdges = from.mostEdges;
            least = from.least;
        }

        /** False if the word was told ahead. */
        boolean tellsFirst(int word) {
            boolean isFirst = (words & word) == 0;
            words |= word;
            return isFirst;
        }

        boolean hasRoomForPattern() {
            return patterns < MOST_PATTERNS;
        }

        void addPattern(int n, int code) {
            if (patterns >= 0 && patterns < patternNodes.length && patterns < patternCodes.length) {
                patternNodes[patterns] = n;
                patternCodes[patterns] = code;
                patterns++;
            }
        }

        void formPatterns(Forms forms) {
            for (int i = 0; i < patterns && i < patternNodes.length && i < patternCodes.length; i++) {
                patternCodes[i] = forms.leastOf(patternNodes[i], patternCodes[i]);
            }
        }

        boolean shapeKept(int n, int code, Sketch sketch) {
            sketch.draw(n, code);
            return sketch.mostNear() <= most
                    && !(unlike && sketch.joinsOneColour())
                    && (bannedCircles == 0 || (sketch.circles() & bannedCircles) == 0);
        }

        boolean patternsKept(int n, int code, Forms forms) {
            int light = code & Code.allEdges(n);
            for (int i = 0; i < patterns && i < patternNodes.length && i < patternCodes.length; i++) {
                if (forms.partsLike(n, light, patternNodes[i], patternCodes[i]) > 0) {
                    return false;
                }
            }
            return true;
        }

        /** The net must be drawn already. */
        boolean endsKept(int n, int code, Sketch sketch) {
            int edges = Code.edges(n, code);
            return edges >= fewestEdges && edges <= mostEdges
                    && sketch.leastNear() >= least
                    && !(endsJoined && sketch.pieces() > 1);
        }
    }

    /** The codes of all nets that keep the rules, level behind level, on each the least first. */
    private static final class Levels {
        private static final int MOST_ON_ONE = 544;
        private static final int MOST_IN_ALL = 2 + 6 + 20 + 90 + MOST_ON_ONE;

        private final int[] codes = new int[MOST_IN_ALL];
        private final int[] firsts = new int[MOST_NODES + 2];
        private int total;

        void copyFrom(Levels from) {
            System.arraycopy(from.codes, 0, codes, 0, MOST_IN_ALL);
            System.arraycopy(from.firsts, 0, firsts, 0, MOST_NODES + 2);
            total = from.total;
        }

        void fill(Rules rules, Sketch sketch, Forms forms) {
            total = 0;
            add(0);
            if (rules.hasDark) {
                add(1);
            }
            setFirst(2);
            // Parents and blocks go up, and so do the codes that they make: no level has to be sorted.
            int blocksAhead = rules.hasDark ? 2 : 1;
            for (int n = 2; n <= MOST_NODES; n++) {
                for (int k = 0; k < amount(n - 1) && n <= rules.size; k++) {
                    for (int block = 0; block < blocksAhead << n - 1; block++) {
                        int code = codeOf(n - 1, k) << n | block;
                        if (forms.isForm(n, code) && rules.shapeKept(n, code, sketch)
                                && rules.patternsKept(n, code, forms)) {
                            add(code);
                        }
                    }
                }
                setFirst(n + 1);
            }
        }

        private void add(int code) {
            if (total >= 0 && total < codes.length) {
                codes[total] = code;
                total++;
            }
        }

        private void setFirst(int n) {
            if (n >= 0 && n < firsts.length) {
                firsts[n] = total;
            }
        }

        private int firstOf(int n) {
            return n >= 0 && n < firsts.length ? firsts[n] : total;
        }

        int amount(int n) {
            return firstOf(n + 1) - firstOf(n);
        }

        int codeOf(int n, int k) {
            int i = firstOf(n) + k;
            return i >= 0 && i < codes.length ? codes[i] : NONE;
        }

        int numberOf(int n, int code) {
            int number = ahead(n, code);
            return number < amount(n) && codeOf(n, number) == code ? number : NONE;
        }

        /** How many nets of a level have a lesser code. */
        private int ahead(int n, int code) {
            int low = 0;
            int high = amount(n);
            for (int halvings = 0; halvings < 32 && low < high; halvings++) {
                int middle = (low + high) / 2;
                if (codeOf(n, middle) < code) {
                    low = middle + 1;
                } else {
                    high = middle;
                }
            }
            return low;
        }

        /** The number of the first net of level m that comes from the k-th of level n, if one does. */
        int firstHeir(int n, int k, int m) {
            return ahead(m, codeOf(n, k) << Code.bits(m) - Code.bits(n));
        }

        int heirs(int n, int k, int m) {
            int behind = ahead(m, codeOf(n, k) + 1 << Code.bits(m) - Code.bits(n));
            return behind - firstHeir(n, k, m);
        }

        int shareSize(int size, int d, int p, int i) {
            int sum = 0;
            for (int k = i; k < amount(d) && p > 0; k += p) {
                sum += heirs(d, k, size);
            }
            return sum;
        }

        int shareNumber(int size, int d, int p, int i, int place) {
            int left = place;
            for (int k = i; k < amount(d) && p > 0 && left >= 0; k += p) {
                int here = heirs(d, k, size);
                if (left < here) {
                    return firstHeir(d, k, size) + left;
                }
                left -= here;
            }
            return NONE;
        }
    }

    /** Which share each walker has, and how far it listed it. */
    private static final class Walkers {
        private final int[] depths = new int[MOST_WALKERS];
        private final int[] allParts = new int[MOST_WALKERS];
        private final int[] ownParts = new int[MOST_WALKERS];
        private final int[] lists = new int[MOST_WALKERS];

        void clear() {
            for (int walker = 0; walker < MOST_WALKERS; walker++) {
                give(walker, 0, 0, 0);
            }
        }

        void copyFrom(Walkers from) {
            System.arraycopy(from.depths, 0, depths, 0, MOST_WALKERS);
            System.arraycopy(from.allParts, 0, allParts, 0, MOST_WALKERS);
            System.arraycopy(from.ownParts, 0, ownParts, 0, MOST_WALKERS);
            System.arraycopy(from.lists, 0, lists, 0, MOST_WALKERS);
        }

        void give(int walker, int d, int p, int i) {
            put(depths, walker, d);
            put(allParts, walker, p);
            put(ownParts, walker, i);
            put(lists, walker, 0);
        }

        void setListed(int walker, int n) {
            put(lists, walker, n);
        }

        boolean hasShare(int walker) {
            return depth(walker) > 0;
        }

        int withShare() {
            int set = 0;
            for (int walker = 0; walker < MOST_WALKERS; walker++) {
                set |= hasShare(walker) ? 1 << walker : 0;
            }
            return set;
        }

        int depth(int walker) {
            return look(depths, walker);
        }

        int parts(int walker) {
            return look(allParts, walker);
        }

        int part(int walker) {
            return look(ownParts, walker);
        }

        int listed(int walker) {
            return look(lists, walker);
        }

        private static int look(int[] row, int walker) {
            return row != null && walker >= 0 && walker < row.length ? row[walker] : 0;
        }

        private static void put(int[] row, int walker, int number) {
            if (row != null && walker >= 0 && walker < row.length) {
                row[walker] = number;
            }
        }
    }

    /** The bytes of the net that was written. */
    private static final class Page {
        // The longest text is that of six nodes and fifteen edges, 81 bytes.
        private static final int MOST_BYTES = 96;

        private final int[] bytes = new int[MOST_BYTES];
        private int length;

        int at(int k) {
            return k >= 0 && k < length && k < bytes.length ? bytes[k] : NONE;
        }

        void writeNet(int n, int code) {
            length = 0;
            putWord("net");
            putNumber(n);
            if (Code.darkNodes(n, code) > 0) {
                putWord("dark");
                for (int node = 0; node < n; node++) {
                    if ((code & Code.dark(n, node)) != 0) {
                        putNumber(node);
                    }
                }
            }
            writeEdges(n, code);
        }

        private void writeEdges(int n, int code) {
            int left = Code.edges(n, code);
            if (left > 0) {
                putWord(":");
            }
            for (int a = 0; a < n; a++) {
                for (int b = a + 1; b < n; b++) {
                    if (Code.areJoined(n, code, a, b)) {
                        putNumber(a);
                        putNumber(b);
                        left--;
                        if (left > 0) {
                            put(',');
                        }
                    }
                }
            }
        }

        private void putWord(String word) {
            putBlank();
            for (int i = 0; i < word.length(); i++) {
                put(word.charAt(i));
            }
        }

        private void putNumber(int digit) {
            putBlank();
            put('0' + digit);
        }

        private void putBlank() {
            if (length > 0) {
                put(' ');
            }
        }

        private void put(int octet) {
            if (length >= 0 && length < bytes.length) {
                bytes[length] = octet;
                length++;
            }
        }
    }

    /** The bytes that were fed, read thing by thing: where the latest thing began is where a wrong text is wrong. */
    private static final class Tape {
        private static final int MOST_BYTES = 400;
        private static final int FED_BYTES = 20;

        private final int[] bytes = new int[MOST_BYTES];
        private int length;
        private int position;
        private int begun;
        private int wrong = NONE;

        boolean hasRoom() {
            return length + FED_BYTES <= MOST_BYTES;
        }

        void append(int number) {
            for (int shift = 24; shift >= 0; shift -= 8) {
                if (length >= 0 && length < bytes.length) {
                    bytes[length] = number >> shift & 255;
                    length++;
                }
            }
        }

        void begin() {
            position = 0;
            begun = 0;
        }

        void finish(boolean right) {
            wrong = right ? NONE : begun;
            length = 0;
        }

        boolean goesOn() {
            skipBlanks();
            return position < length;
        }

        boolean digitComes() {
            skipBlanks();
            return isDigit(position);
        }

        boolean takesSign(char sign) {
            skipBlanks();
            if (at(position) != sign) {
                return false;
            }
            position++;
            return true;
        }

        boolean takesWord(String word) {
            skipBlanks();
            int behind = position;
            while (behind < length && isLetter(behind)) {
                behind++;
            }
            if (behind - position != word.length()) {
                return false;
            }
            for (int i = 0; i < word.length(); i++) {
                if (at(position + i) != word.charAt(i)) {
                    return false;
                }
            }
            position = behind;
            return true;
        }

        /** NONE, and nothing is taken, if no number comes or it is out of these bounds. */
        int takeNumber(int low, int high) {
            skipBlanks();
            int behind = position;
            int number = 0;
            while (behind < length && behind < position + 3 && isDigit(behind)) {
                number = number * 10 + at(behind) - '0';
                behind++;
            }
            int digits = behind - position;
            if (digits < 1 || digits > 2 || number < low || number > high) {
                return NONE;
            }
            position = behind;
            return number;
        }

        private void skipBlanks() {
            while (position < length && at(position) == ' ') {
                position++;
            }
            begun = position;
        }

        private boolean isDigit(int i) {
            return at(i) >= '0' && at(i) <= '9';
        }

        private boolean isLetter(int i) {
            return at(i) >= 'a' && at(i) <= 'z';
        }

        private int at(int i) {
            return i >= 0 && i < length && i < bytes.length ? bytes[i] : NONE;
        }
    }

    /** The two kinds of text. A reader that answers false leaves the tape at the thing that cannot stand there. */
    private static final class Texts {
        private static final int MOST_LINES = 14;

        private int nodes;
        private int code;

        boolean readKind(Tape tape, Rules rules) {
            rules.clear();
            if (!tape.takesWord("nodes")) {
                return false;
            }
            rules.size = tape.takeNumber(1, MOST_NODES);
            if (rules.size == NONE) {
                return false;
            }
            if (tape.takesWord("dark")) {
                if (rules.size > MOST_DARK_NODES) {
                    return false;
                }
                rules.hasDark = true;
            }
            for (int line = 0; line < MOST_LINES && tape.goesOn(); line++) {
                if (!tape.takesSign(';') || !readLine(tape, rules)) {
                    return false;
                }
            }
            return hasEnded(tape);
        }

        /** A line too many is wrong at its word, not at the sign ahead of it. */
        private static boolean hasEnded(Tape tape) {
            if (!tape.goesOn()) {
                return true;
            }
            if (tape.takesSign(';')) {
                tape.goesOn();
            }
            return false;
        }

        private static boolean readLine(Tape tape, Rules rules) {
            if (tape.takesWord("end")) {
                rules.endLines++;
                return readEnd(tape, rules);
            }
            rules.ruleLines++;
            if (tape.takesWord("without")) {
                return readPattern(tape, rules);
            }
            return readRule(tape, rules);
        }

        private static boolean readRule(Tape tape, Rules rules) {
            if (tape.takesWord("most")) {
                rules.most = rules.tellsFirst(Rules.WORD_MOST) ? tape.takeNumber(0, MOST_NODES - 1) : NONE;
                return rules.most != NONE;
            }
            if (tape.takesWord("free")) {
                int length = tape.takeNumber(3, MOST_NODES);
                rules.bannedCircles |= length == NONE ? 0 : 1 << length;
                return length != NONE;
            }
            if (tape.takesWord("even")) {
                rules.bannedCircles |= Rules.ODD_CIRCLES;
                return rules.tellsFirst(Rules.WORD_EVEN);
            }
            if (tape.takesWord("forest")) {
                rules.bannedCircles |= Rules.ALL_CIRCLES;
                return rules.tellsFirst(Rules.WORD_FOREST);
            }
            if (tape.takesWord("unlike")) {
                rules.unlike = true;
                return rules.hasDark && rules.tellsFirst(Rules.WORD_UNLIKE);
            }
            return false;
        }

        private static boolean readPattern(Tape tape, Rules rules) {
            if (!rules.hasRoomForPattern()) {
                return false;
            }
            int n = tape.takeNumber(2, 4);
            if (n == NONE) {
                return false;
            }
            int edges = tape.takesSign(':') ? readEdges(tape, n, 0) : 0;
            if (edges == NONE) {
                return false;
            }
            rules.addPattern(n, edges);
            return true;
        }

        private static boolean readEnd(Tape tape, Rules rules) {
            if (tape.takesWord("joined")) {
                rules.endsJoined = true;
                return rules.tellsFirst(Rules.WORD_JOINED);
            }
            if (tape.takesWord("edges")) {
                return rules.tellsFirst(Rules.WORD_EDGES) && readBounds(tape, rules);
            }
            if (tape.takesWord("least")) {
                rules.least = rules.tellsFirst(Rules.WORD_LEAST) ? tape.takeNumber(0, MOST_NODES - 1) : NONE;
                return rules.least != NONE;
            }
            return false;
        }

        private static boolean readBounds(Tape tape, Rules rules) {
            rules.fewestEdges = tape.takeNumber(0, MOST_EDGES);
            if (rules.fewestEdges == NONE || !tape.takesWord("to")) {
                return false;
            }
            rules.mostEdges = tape.takeNumber(rules.fewestEdges, MOST_EDGES);
            return rules.mostEdges != NONE;
        }

        /** The code with the edges that are told, or NONE. */
        private static int readEdges(Tape tape, int n, int colours) {
            int told = colours;
            for (int edges = 0; edges <= MOST_EDGES; edges++) {
                int a = tape.takeNumber(0, n - 1);
                if (a == NONE) {
                    return NONE;
                }
                int b = tape.takeNumber(0, n - 1);
                if (b == NONE || a == b || Code.areJoined(n, told, a, b)) {
                    return NONE;
                }
                told |= Code.edge(n, a, b);
                if (!tape.takesSign(',')) {
                    return told;
                }
            }
            return NONE;
        }

        boolean readNet(Tape tape, Rules rules) {
            if (!tape.takesWord("net")) {
                return false;
            }
            int n = tape.takeNumber(1, rules.size);
            if (n == NONE) {
                return false;
            }
            int told = 0;
            if (tape.takesWord("dark")) {
                told = rules.hasDark ? readColours(tape, n) : NONE;
            }
            if (told != NONE && tape.takesSign(':')) {
                told = readEdges(tape, n, told);
            }
            if (told == NONE || tape.goesOn()) {
                return false;
            }
            nodes = n;
            code = told;
            return true;
        }

        /** The code with the dark nodes that are told, or NONE. */
        private static int readColours(Tape tape, int n) {
            int told = 0;
            for (int darks = 0; darks <= n && (darks == 0 || tape.digitComes()); darks++) {
                int node = tape.takeNumber(0, n - 1);
                if (node == NONE || (told & Code.dark(n, node)) != 0) {
                    return NONE;
                }
                told |= Code.dark(n, node);
            }
            return told;
        }
    }
}
