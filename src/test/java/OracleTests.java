import java.util.ArrayList;
import java.util.Arrays;
import java.util.List;

/** Every answer about nets, held against one found by trying all orders, all nets with names and all sets of nodes. */
public final class OracleTests {
    private static final int MOST_CALLS = 500;
    private static final int[][] FORMS = new int[7][];
    private static final List<List<int[]>> ORDERS = new ArrayList<>();

    private static OrderlyNets nets;
    private static String text;
    private static int calls;

    private static int size;
    private static boolean dark;
    private static int[][] levels;

    public static void main(String[] args) {
        for (int n = 0; n <= 6; n++) {
            List<int[]> orders = new ArrayList<>();
            addOrders(n, new int[n], 0, 0, orders);
            ORDERS.add(orders);
        }
        for (int n = 1; n <= 6; n++) {
            fillForms(n);
        }
        String[] kinds = {
            "nodes 1", "nodes 2", "nodes 3", "nodes 4", "nodes 5", "nodes 6",
            "nodes 1 dark", "nodes 2 dark", "nodes 3 dark", "nodes 4 dark", "nodes 5 dark",
            "nodes 6; most 2", "nodes 6; most 3; end joined", "nodes 5 dark; most 1", "nodes 6; most 0",
            "nodes 6; free 3", "nodes 6; free 4", "nodes 6; free 5; end least 2", "nodes 6; free 6",
            "nodes 6; free 3; free 4; free 5; end edges 4 to 6",
            "nodes 5 dark; free 3; unlike", "nodes 5 dark; unlike; end joined", "nodes 4 dark; unlike; forest",
            "nodes 6; even; end least 2; end joined", "nodes 6; forest", "nodes 6; forest; end joined",
            "nodes 5 dark; forest; most 2; end edges 4 to 4", "nodes 5 dark; even",
            "nodes 6; without 2", "nodes 6; without 2: 0 1", "nodes 6; without 3", "nodes 6; without 3: 0 2",
            "nodes 6; without 3: 0 1, 0 2", "nodes 6; without 3: 0 1, 0 2, 1 2; end edges 0 to 3",
            "nodes 6; without 4: 3 1, 2 0, 0 3", "nodes 6; without 4: 0 1, 1 2, 2 3, 3 0",
            "nodes 6; without 4: 0 1, 2 3; without 4: 0 1, 0 2, 1 2, 1 3",
            "nodes 5 dark; without 3: 0 1; without 4: 0 1, 0 2, 0 3",
            "nodes 5; without 2; without 2: 0 1", "nodes 5 dark; without 2: 1 0; end least 1",
            "nodes 6; most 4; free 5; even; without 4: 0 1, 2 3; end joined; end edges 5 to 9; end least 1",
        };
        for (String kind : kinds) {
            checkKind(kind);
        }
        Checks.end("OracleTests");
    }

    // ---- all nets, by all orders

    private static void addOrders(int n, int[] order, int place, int used, List<int[]> orders) {
        if (place == n) {
            orders.add(order.clone());
            return;
        }
        for (int node = 0; node < n; node++) {
            if ((used >> node & 1) == 0) {
                order[place] = node;
                addOrders(n, order, place + 1, used | 1 << node, orders);
            }
        }
    }

    /** A net as a table: joined or not, and on the diagonal dark or not. */
    private static boolean[][] table(int n, int code) {
        boolean[][] table = new boolean[n][n];
        int bit = n * (n + 1) / 2;
        for (int i = 0; i < n; i++) {
            table[i][i] = (code >> --bit & 1) == 1;
            for (int j = 0; j < i; j++) {
                table[i][j] = (code >> --bit & 1) == 1;
                table[j][i] = table[i][j];
            }
        }
        return table;
    }

    private static int code(boolean[][] table, int[] order) {
        int code = 0;
        for (int i = 0; i < order.length; i++) {
            code = code << 1 | (table[order[i]][order[i]] ? 1 : 0);
            for (int j = 0; j < i; j++) {
                code = code << 1 | (table[order[i]][order[j]] ? 1 : 0);
            }
        }
        return code;
    }

    private static void fillForms(int n) {
        int[] forms = new int[1 << n * (n + 1) / 2];
        Arrays.fill(forms, -1);
        for (int code = 0; code < forms.length; code++) {
            if (forms[code] < 0 && (n < 6 || !anyDark(table(n, code)))) {
                for (int[] order : ORDERS.get(n)) {
                    forms[code(table(n, code), order)] = code;
                }
            }
        }
        FORMS[n] = forms;
    }

    private static boolean anyDark(boolean[][] table) {
        for (int i = 0; i < table.length; i++) {
            if (table[i][i]) {
                return true;
            }
        }
        return false;
    }

    private static int form(boolean[][] table) {
        int[] same = new int[table.length];
        for (int i = 0; i < same.length; i++) {
            same[i] = i;
        }
        return FORMS[table.length][code(table, same)];
    }

    private static List<int[]> formOrders(boolean[][] table) {
        List<int[]> found = new ArrayList<>();
        for (int[] order : ORDERS.get(table.length)) {
            if (code(table, order) == form(table)) {
                found.add(order);
            }
        }
        return found;
    }

    private static boolean[][] part(boolean[][] table, int set) {
        int[] nodes = new int[Integer.bitCount(set)];
        int filled = 0;
        for (int i = 0; i < table.length; i++) {
            if ((set >> i & 1) == 1) {
                nodes[filled++] = i;
            }
        }
        boolean[][] part = new boolean[filled][filled];
        for (int i = 0; i < filled; i++) {
            for (int j = 0; j < filled; j++) {
                part[i][j] = table[nodes[i]][nodes[j]];
            }
        }
        return part;
    }

    private static boolean[][] copy(boolean[][] table) {
        return part(table, (1 << table.length) - 1);
    }

    private static int edges(boolean[][] table) {
        int edges = 0;
        for (int i = 0; i < table.length; i++) {
            for (int j = 0; j < i; j++) {
                edges += table[i][j] ? 1 : 0;
            }
        }
        return edges;
    }

    // ---- rules and ends, read off the words of the text

    private static boolean hasCircle(boolean[][] table, int length) {
        int n = table.length;
        for (int set = 0; set < 1 << n; set++) {
            if (Integer.bitCount(set) == length) {
                boolean[][] part = part(table, set);
                for (int[] order : ORDERS.get(length)) {
                    boolean closed = true;
                    for (int i = 0; i < length && closed; i++) {
                        closed = part[order[i]][order[(i + 1) % length]];
                    }
                    if (closed) {
                        return true;
                    }
                }
            }
        }
        return false;
    }

    private static int joinedTo(boolean[][] table, int node) {
        int joined = 0;
        for (int i = 0; i < table.length; i++) {
            joined += i != node && table[node][i] ? 1 : 0;
        }
        return joined;
    }

    private static boolean breaks(boolean[][] table, String line) {
        String[] words = line.trim().split("[ :,]+");
        int n = table.length;
        switch (words[0]) {
            case "most":
                for (int i = 0; i < n; i++) {
                    if (joinedTo(table, i) > Integer.parseInt(words[1])) {
                        return true;
                    }
                }
                return false;
            case "free":
                return hasCircle(table, Integer.parseInt(words[1]));
            case "even":
                return hasCircle(table, 3) || hasCircle(table, 5);
            case "forest":
                return hasCircle(table, 3) || hasCircle(table, 4) || hasCircle(table, 5) || hasCircle(table, 6);
            case "unlike":
                for (int i = 0; i < n; i++) {
                    for (int j = 0; j < i; j++) {
                        if (table[i][j] && table[i][i] == table[j][j]) {
                            return true;
                        }
                    }
                }
                return false;
            default:
                return holds(table, words);
        }
    }

    private static boolean holds(boolean[][] table, String[] words) {
        int m = Integer.parseInt(words[1]);
        boolean[][] pattern = new boolean[m][m];
        for (int i = 2; i < words.length; i += 2) {
            int a = Integer.parseInt(words[i]);
            int b = Integer.parseInt(words[i + 1]);
            pattern[a][b] = true;
            pattern[b][a] = true;
        }
        for (int set = 0; set < 1 << table.length; set++) {
            if (Integer.bitCount(set) == m) {
                boolean[][] part = part(table, set);
                for (int i = 0; i < m; i++) {
                    part[i][i] = false;
                }
                if (form(part) == form(pattern)) {
                    return true;
                }
            }
        }
        return false;
    }

    private static boolean keepsRules(boolean[][] table) {
        String[] lines = text.split(";");
        for (int i = 1; i < lines.length; i++) {
            if (!lines[i].trim().startsWith("end") && breaks(table, lines[i])) {
                return false;
            }
        }
        return true;
    }

    private static boolean keepsEnds(boolean[][] table) {
        String[] lines = text.split(";");
        for (int i = 1; i < lines.length; i++) {
            String[] words = lines[i].trim().split(" +");
            if (!words[0].equals("end")) {
                continue;
            }
            if (words[1].equals("joined") && pieces(table) > 1) {
                return false;
            }
            if (words[1].equals("edges")) {
                int edges = edges(table);
                if (edges < Integer.parseInt(words[2]) || edges > Integer.parseInt(words[4])) {
                    return false;
                }
            }
            for (int v = 0; words[1].equals("least") && v < table.length; v++) {
                if (joinedTo(table, v) < Integer.parseInt(words[2])) {
                    return false;
                }
            }
        }
        return true;
    }

    private static int[][] ways(boolean[][] table) {
        int n = table.length;
        int[][] ways = new int[n][n];
        for (int i = 0; i < n; i++) {
            for (int j = 0; j < n; j++) {
                ways[i][j] = i == j ? 0 : table[i][j] ? 1 : 99;
            }
        }
        for (int k = 0; k < n; k++) {
            for (int i = 0; i < n; i++) {
                for (int j = 0; j < n; j++) {
                    ways[i][j] = Math.min(ways[i][j], ways[i][k] + ways[k][j]);
                }
            }
        }
        return ways;
    }

    private static int pieces(boolean[][] table) {
        int[][] ways = ways(table);
        int pieces = 0;
        for (int i = 0; i < table.length; i++) {
            boolean first = true;
            for (int j = 0; j < i; j++) {
                first &= ways[i][j] >= 99;
            }
            pieces += first ? 1 : 0;
        }
        return pieces;
    }

    private static int width(boolean[][] table) {
        int most = 0;
        for (int[] row : ways(table)) {
            for (int way : row) {
                most = Math.max(most, way);
            }
        }
        return most >= 99 ? -1 : most;
    }

    private static int shortestCircle(boolean[][] table) {
        for (int length = 3; length <= table.length; length++) {
            if (hasCircle(table, length)) {
                return length;
            }
        }
        return 0;
    }

    private static int number(boolean[][] table) {
        int[] level = levels[table.length];
        int at = Arrays.binarySearch(level, form(table));
        return at < 0 ? -1 : at;
    }

    // ---- the checks

    private static OrderlyNets x() {
        calls++;
        if (calls > MOST_CALLS) {
            nets = Checks.ofKind(text);
            calls = 20;
        }
        return nets;
    }

    private static void due(String call, long got, long want) {
        Checks.due("<" + text + "> " + call, got, want);
    }

    private static void checkKind(String kind) {
        text = kind;
        String[] head = kind.split(";")[0].trim().split(" ");
        size = Integer.parseInt(head[1]);
        dark = head.length > 2;
        nets = Checks.ofKind(kind);
        calls = 20;
        levels = new int[7][];
        for (int n = 1; n <= size; n++) {
            checkLevel(n);
        }
        checkCycles();
        int found = 0;
        for (int k = 0; k < levels[size].length; k++) {
            if (keepsEnds(table(size, levels[size][k]))) {
                due("full(" + found + ")", x().full(found), k);
                found++;
            }
        }
        due("full(-1)", x().full(-1), found);
        due("full(" + found + ")", x().full(found), -1);
        checkShares();
    }

    private static void checkLevel(int n) {
        List<Integer> found = new ArrayList<>();
        long named = 0;
        for (int code = 0; code < FORMS[n].length; code++) {
            if (!dark && FORMS[n][code] >= 0 && anyDark(table(n, code)) || FORMS[n][code] < 0) {
                continue;
            }
            if (FORMS[n][code] == code && keepsRules(table(n, code))) {
                found.add(code);
            }
        }
        levels[n] = found.stream().mapToInt(Integer::intValue).toArray();
        for (int code = 0; code < FORMS[n].length; code++) {
            named += Arrays.binarySearch(levels[n], FORMS[n][code]) >= 0 ? 1 : 0;
        }
        due("level(" + n + ")", x().level(n), levels[n].length);
        due("named(" + n + ")", x().named(n), named);
        int rooted = 0;
        for (int k = 0; k < levels[n].length; k++) {
            boolean[][] table = table(n, levels[n][k]);
            rooted += checkNet(n, k, table);
            checkGrown(n, k, table);
            checkTurned(n, k, table);
            checkPairs(n, k, table);
        }
        due("rooted(" + n + ")", x().rooted(n), rooted);
        if (n > 1) {
            due("twins(" + n + ")", x().twins(n), twins(n));
        }
    }

    /** Answers how many unlike nodes the net has. */
    private static int checkNet(int n, int k, boolean[][] table) {
        String name = "net(" + n + ", " + k + ", ";
        List<int[]> orders = formOrders(table);
        int last = 0;
        int darks = 0;
        int unlike = 0;
        for (int[] order : orders) {
            last |= 1 << order[n - 1];
        }
        for (int node = 0; node < n; node++) {
            int least = node;
            for (int[] order : orders) {
                for (int[] next : orders) {
                    for (int place = 0; place < n; place++) {
                        least = order[place] == node ? Math.min(least, next[place]) : least;
                    }
                }
                if (orders.size() > 100) {
                    break; // one of two such orders may always be the first, and all of them would be many
                }
            }
            due("orbit(" + n + ", " + k + ", " + node + ")", x().orbit(n, k, node), least);
            unlike += least == node ? 1 : 0;
            darks |= table[node][node] ? 1 << node : 0;
            for (int other = 0; other < n; other++) {
                boolean joined = other != node && table[node][other];
                due("joined(" + n + ", " + k + ", " + node + ", " + other + ")",
                        x().joined(n, k, node, other) ? 1 : 0, joined ? 1 : 0);
            }
            if (n > 1) {
                boolean[][] left = part(table, (1 << n) - 1 ^ 1 << node);
                due("deck(" + n + ", " + k + ", " + node + ")", x().deck(n, k, node), number(left));
            }
        }
        int parent = n == 1 ? -1 : number(part(table, (1 << n - 1) - 1));
        due(name + "0)", x().net(n, k, 0), levels[n][k]);
        due(name + "1)", x().net(n, k, 1), edges(table));
        due(name + "2)", x().net(n, k, 2), orders.size());
        due(name + "3)", x().net(n, k, 3), unlike);
        due(name + "4)", x().net(n, k, 4), last);
        due(name + "5)", x().net(n, k, 5), parent);
        due(name + "7)", x().net(n, k, 7), pieces(table));
        due(name + "8)", x().net(n, k, 8), width(table));
        due(name + "9)", x().net(n, k, 9), shortestCircle(table));
        due(name + "10)", x().net(n, k, 10), darks);
        due(name + "11)", x().net(n, k, 11), keepsEnds(table) ? 1 : 0);
        due("lines(" + n + ", " + k + ")", x().lines(n, k), lines(table, orders));
        checkText(n, k, table, darks);
        if (n > 1) {
            checkChild(n, k, parent);
        }
        if (n == size) {
            due(name + "6)", x().net(n, k, 6), 0);
            due("child", x().child(n, k, 0), -1);
        }
        return unlike;
    }

    private static void checkChild(int n, int k, int parent) {
        int ahead = 0;
        int all = 0;
        for (int j = 0; j < levels[n].length; j++) {
            if (number(part(table(n, levels[n][j]), (1 << n - 1) - 1)) == parent) {
                all++;
                ahead += j < k ? 1 : 0;
            }
        }
        due("child(" + (n - 1) + ", " + parent + ", " + ahead + ")", x().child(n - 1, parent, ahead), k);
        due("child(" + (n - 1) + ", " + parent + ", " + all + ")", x().child(n - 1, parent, all), -1);
        due("net(" + (n - 1) + ", " + parent + ", 6)", x().net(n - 1, parent, 6), all);
    }

    private static void checkText(int n, int k, boolean[][] table, int darks) {
        StringBuilder want = new StringBuilder("net " + n);
        for (int i = 0; i < n; i++) {
            if (table[i][i]) {
                want.append(want.indexOf("dark") < 0 ? " dark " : " ").append(i);
            }
        }
        String sign = " : ";
        for (int i = 0; i < n; i++) {
            for (int j = i + 1; j < n; j++) {
                if (table[i][j]) {
                    want.append(sign).append(i).append(' ').append(j);
                    sign = ", ";
                }
            }
        }
        calls += want.length() + 20;
        due("text(" + n + ", " + k + ")", x().text(n, k), want.length());
        due("count(5)", nets.count(5), want.length());
        String got = Checks.written(nets);
        due("text(" + n + ", " + k + ") <" + got + "> for <" + want + ">", got.contentEquals(want) ? 1 : 0, 1);
        calls += 12;
        due("told <" + want + ">", Checks.told(x(), want.toString()), k);
        due("form(0) of <" + want + ">", nets.form(0), n);
        due("form(1) of <" + want + ">", nets.form(1), levels[n][k]);
        due("form(3) of <" + want + ">", nets.form(3), edges(table));
        checkTold(n, k, table);
    }

    /** The same net with its nodes in another order: its first order is the first one that has the form. */
    private static void checkTold(int n, int k, boolean[][] table) {
        List<int[]> orders = ORDERS.get(n);
        int[] other = orders.get((k * 31 + 17) % orders.size());
        StringBuilder told = new StringBuilder("net " + n);
        boolean[][] moved = new boolean[n][n];
        String darkSign = " dark ";
        for (int i = n - 1; i >= 0; i--) {
            if (table[other[i]][other[i]]) {
                told.append(darkSign).append(i);
                darkSign = " ";
            }
        }
        String sign = ":";
        for (int i = 0; i < n; i++) {
            for (int j = 0; j < n; j++) {
                moved[i][j] = table[other[i]][other[j]];
                if (j < i && moved[i][j]) {
                    told.append(sign).append((i + j) % 2 == 0 ? i + " " + j : j + " " + i);
                    sign = ",";
                }
            }
        }
        calls += 18;
        List<int[]> formOrders = formOrders(moved);
        due("told <" + told + ">", Checks.told(x(), told.toString()), k);
        due("form(2) of <" + told + ">", nets.form(2), formOrders.size());
        for (int place = 0; place < n; place++) {
            due("order(" + place + ") of <" + told + ">", nets.order(place), formOrders.get(0)[place]);
        }
    }

    private static int lines(boolean[][] table, List<int[]> orders) {
        int n = table.length;
        int unlike = 0;
        for (int a = 0; a < n; a++) {
            for (int b = a + 1; b < n; b++) {
                boolean first = table[a][b];
                for (int[] order : orders) {
                    int[] same = orders.get(0);
                    int to = 0;
                    for (int place = 0; place < n; place++) {
                        to |= same[place] == a || same[place] == b ? 1 << order[place] : 0;
                    }
                    int low = Integer.numberOfTrailingZeros(to);
                    int high = 31 - Integer.numberOfLeadingZeros(to);
                    first &= low > a || low == a && high >= b;
                }
                unlike += first ? 1 : 0;
            }
        }
        return unlike;
    }

    private static void checkGrown(int n, int k, boolean[][] table) {
        for (int set = 0; set < 1 << n && n < size; set++) {
            for (int colour = 0; colour < (dark ? 2 : 1); colour++) {
                boolean[][] grown = new boolean[n + 1][n + 1];
                grown[n][n] = colour == 1;
                for (int i = 0; i < n; i++) {
                    System.arraycopy(table[i], 0, grown[i], 0, n);
                    grown[i][n] = (set >> i & 1) == 1;
                    grown[n][i] = grown[i][n];
                }
                boolean keeps = keepsRules(grown);
                boolean last = false;
                for (int[] order : formOrders(grown)) {
                    last |= order[n] == n;
                }
                String name = "(" + n + ", " + k + ", " + set + ", " + (colour == 1) + ")";
                int got = x().grown(n, k, set, colour == 1);
                if (keeps) {
                    due("form of grown" + name, got < 0 ? -1 : x().net(n + 1, got, 0), form(grown));
                } else {
                    due("grown" + name, got, -1);
                }
                due("taken" + name, x().taken(n, k, set, colour == 1) ? 1 : 0, keeps && last ? 1 : 0);
            }
        }
    }

    private static void checkTurned(int n, int k, boolean[][] table) {
        boolean[][] other = copy(table);
        for (int a = 0; a < n; a++) {
            for (int b = 0; b < n; b++) {
                if (a != b) {
                    other[a][b] = !table[a][b];
                    boolean[][] turned = copy(table);
                    turned[a][b] = !table[a][b];
                    turned[b][a] = turned[a][b];
                    due("turned(" + n + ", " + k + ", " + a + ", " + b + ")", x().turned(n, k, a, b), number(turned));
                }
            }
        }
        due("other(" + n + ", " + k + ")", x().other(n, k), number(other));
    }

    private static void checkPairs(int n, int k, boolean[][] table) {
        int steps = levels[n].length < 12 ? 1 : levels[n].length / 6;
        for (int j = k % steps; j < levels[n].length; j += steps) {
            boolean[][] to = table(n, levels[n][j]);
            due("apart(" + n + ", " + k + ", " + j + ")", x().apart(n, k, j), apart(table, to));
            due("apart(" + n + ", " + j + ", " + k + ")", x().apart(n, j, k), apart(table, to));
        }
        for (int m = 1; m <= n; m++) {
            int widths = levels[m].length < 5 ? 1 : levels[m].length / 3;
            for (int j = k % widths; j < levels[m].length; j += widths) {
                boolean[][] to = table(m, levels[m][j]);
                String first = "(" + n + ", " + k + ", " + m + ", " + j + ")";
                String second = "(" + m + ", " + j + ", " + n + ", " + k + ")";
                int common = common(table, to);
                due("within" + first, x().within(n, k, m, j), within(table, form(to), m));
                due("within" + second, x().within(m, j, n, k), m == n && j == k ? 1 : 0);
                due("common" + first, x().common(n, k, m, j), common);
                due("common" + second, x().common(m, j, n, k), common);
            }
        }
    }

    private static int apart(boolean[][] table, boolean[][] to) {
        int n = table.length;
        int best = -1;
        for (int[] order : ORDERS.get(n)) {
            int turns = 0;
            boolean fits = true;
            for (int i = 0; i < n; i++) {
                fits &= table[i][i] == to[order[i]][order[i]];
                for (int j = 0; j < i; j++) {
                    turns += table[i][j] != to[order[i]][order[j]] ? 1 : 0;
                }
            }
            best = fits && (best < 0 || turns < best) ? turns : best;
        }
        return best;
    }

    private static int within(boolean[][] table, int form, int m) {
        int found = 0;
        for (int set = 0; set < 1 << table.length; set++) {
            found += Integer.bitCount(set) == m && form(part(table, set)) == form ? 1 : 0;
        }
        return found;
    }

    private static int common(boolean[][] table, boolean[][] other) {
        int best = 0;
        for (int set = 1; set < 1 << table.length; set++) {
            int m = Integer.bitCount(set);
            if (m > best && m <= other.length && within(other, form(part(table, set)), m) > 0) {
                best = m;
            }
        }
        return best;
    }

    private static int twins(int n) {
        int[][] decks = new int[levels[n].length][n];
        int twins = 0;
        for (int k = 0; k < decks.length; k++) {
            for (int node = 0; node < n; node++) {
                decks[k][node] = number(part(table(n, levels[n][k]), (1 << n) - 1 ^ 1 << node));
            }
            Arrays.sort(decks[k]);
            for (int j = 0; j < k; j++) {
                twins += Arrays.equals(decks[j], decks[k]) ? 1 : 0;
            }
        }
        return twins;
    }

    private static void checkCycles() {
        for (int n = 1; n <= (dark ? 5 : 6); n++) {
            int all = 0;
            int[] byEdges = new int[16];
            for (int code = 0; code < FORMS[n].length; code++) {
                if (FORMS[n][code] == code && (dark || !anyDark(table(n, code)))) {
                    all++;
                    byEdges[edges(table(n, code))]++;
                }
            }
            due("cycles(" + n + ", -1)", x().cycles(n, -1), all);
            for (int e = 0; e < 16; e++) {
                due("cycles(" + n + ", " + e + ")", x().cycles(n, e), byEdges[e]);
            }
        }
    }

    private static void checkShares() {
        for (int d = 1; d <= size; d++) {
            for (int p = 1; p <= 9; p++) {
                for (int i = 0; i < p; i += 1 + p / 4) {
                    List<Integer> want = new ArrayList<>();
                    for (int k = 0; k < levels[size].length; k++) {
                        boolean[][] forbear = part(table(size, levels[size][k]), (1 << d) - 1);
                        if (number(forbear) % p == i) {
                            want.add(k);
                        }
                    }
                    String name = "(" + d + ", " + p + ", " + i + ")";
                    due("share" + name, x().share(d, p, i), want.size());
                    calls += 12;
                    x();
                    due("start" + name, nets.start(1, d, p, i), want.size());
                    for (int at = 0; at < want.size(); at += 1 + want.size() / 3) {
                        nets.resume(1, at);
                        due("next behind " + at + " of share" + name, nets.next(1), want.get(at));
                        due("walker behind " + at + " of share" + name, nets.walker(1, 1), want.size() - at - 1);
                    }
                }
            }
        }
    }
}
