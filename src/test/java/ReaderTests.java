import java.util.ArrayList;
import java.util.Arrays;
import java.util.HashSet;
import java.util.List;
import java.util.Set;

/** Promises 4 to 6: many texts, right ones and ones made wrong by chance, held against a plain reader of things. */
public final class ReaderTests {
    private static final int TEXTS = 12000;
    private static final String[] STRAY = {
        "nodes", "dark", "net", "most", "free", "even", "forest", "unlike", "without", "end", "joined", "edges", "least",
        "to", "too", "x", ":", ";", ",", "0", "1", "2", "3", "4", "5", "6", "7", "15", "16", "04", "007", "-", "A", "\t",
    };
    private static final String[] LINES = {
        "free", "free", "free", "without", "without", "most", "even", "forest", "unlike", "end joined", "end edges",
        "end least",
    };

    private static long seed = 20261119;

    public static void main(String[] args) {
        int right = 0;
        for (int i = 0; i < TEXTS; i++) {
            right += checkKind() ? 1 : 0;
            right += checkNet() ? 1 : 0;
        }
        Checks.holds("texts of both sorts", right > TEXTS / 2 && right < TEXTS * 3 / 2);
        Checks.end("ReaderTests");
    }

    private static int random(int below) {
        seed = seed * 6364136223846793005L + 1442695040888963407L;
        return (int) ((seed >>> 33) % below);
    }

    private static int between(int least, int most) {
        return least + random(most - least + 1);
    }

    // ---- texts

    private static List<String> kindThings() {
        List<String> things = new ArrayList<>();
        int size = between(1, 6);
        boolean dark = random(2) == 0 && size < 6;
        things.addAll(List.of("nodes", number(size)));
        if (dark) {
            things.add("dark");
        }
        Set<String> told = new HashSet<>();
        int lines = random(12) == 0 ? between(13, 16) : between(0, 4);
        for (int line = 0; line < lines; line++) {
            String words = random(20) == 0 ? LINES[random(LINES.length)] : LINES[random(lines > 4 ? 4 : LINES.length)];
            boolean first = told.add(words) || words.equals("free")
                    || words.equals("without") && told.add("without again");
            if (lines > 4 && !first) {
                words = "free";
            } else if (!first && random(8) > 0 || words.equals("unlike") && !dark && random(8) > 0) {
                continue;
            }
            things.add(";");
            things.addAll(List.of(words.split(" ")));
            addNumbers(things, words);
        }
        return things;
    }

    private static void addNumbers(List<String> things, String words) {
        switch (words) {
            case "free" -> things.add(number(random(30) == 0 ? between(0, 9) : between(3, 6)));
            case "most", "end least" -> things.add(number(between(0, random(12) == 0 ? 7 : 5)));
            case "without" -> {
                int nodes = random(30) == 0 ? between(0, 6) : between(2, 4);
                things.add(number(nodes));
                addEdges(things, nodes);
            }
            case "end edges" -> {
                int fewest = between(0, random(12) == 0 ? 17 : 6);
                things.addAll(List.of(number(fewest), "to", number(Math.max(0, fewest + between(-1, 9)))));
            }
            default -> { }
        }
    }

    private static List<String> netThings(int size) {
        List<String> things = new ArrayList<>();
        int nodes = random(20) == 0 ? between(0, 7) : between(1, size);
        things.addAll(List.of("net", number(nodes)));
        if (random(2) == 0) {
            things.add("dark");
            for (int node = random(nodes + 1); node < nodes + random(10) / 9; node += between(1, 2)) {
                things.add(number(node));
            }
        }
        addEdges(things, nodes);
        return things;
    }

    private static void addEdges(List<String> things, int nodes) {
        String sign = ":";
        for (int a = 0; a < nodes; a++) {
            for (int b = 0; b < a; b++) {
                if (random(2) == 0) {
                    boolean turned = random(2) == 0;
                    things.addAll(List.of(sign, number(turned ? a : b), number(turned ? b : a)));
                    sign = ",";
                }
            }
        }
    }

    private static String number(int number) {
        return number < 10 && random(8) == 0 ? "0" + number : String.valueOf(number);
    }

    private static void spoil(List<String> things) {
        int at = random(things.size());
        switch (random(6)) {
            case 0 -> things.remove(at);
            case 1 -> things.add(at, things.get(random(things.size())));
            case 2 -> things.add(at, STRAY[random(STRAY.length)]);
            case 3 -> things.set(at, STRAY[random(STRAY.length)]);
            case 4 -> things.set(at, things.get(at) + STRAY[random(STRAY.length)]);
            default -> things.subList(at, things.size()).clear();
        }
    }

    /** Blanks stand where they must, and by chance anywhere else. */
    private static String text(List<String> things) {
        StringBuilder text = new StringBuilder(" ".repeat(random(4) / 3));
        for (String thing : things) {
            int ahead = text.length() > 0 ? sort(text.charAt(text.length() - 1)) : 0;
            boolean must = ahead > 0 && ahead == sort(thing.charAt(0));
            text.append(" ".repeat(must ? between(1, 1 + random(8) / 7) : random(5) / 3)).append(thing);
        }
        text.append(" ".repeat(random(5) / 4));
        return text.length() > 400 ? text.substring(0, 400) : text.toString();
    }

    private static int sort(char sign) {
        return sign >= 'a' && sign <= 'z' ? 1 : sign >= '0' && sign <= '9' ? 2 : 0;
    }

    // ---- each text read by the class and by the plain reader

    private static boolean checkKind() {
        List<String> things = kindThings();
        if (random(2) == 0) {
            spoil(things);
        }
        String text = text(things);
        Reader reader = new Reader(text);
        int wrong = reader.kind();
        OrderlyNets x = new OrderlyNets();
        Checks.tape(x, text);
        if (wrong != OrderlyNets.NONE) {
            Checks.thrown("kind of <" + text + ">", Checks.ARGUMENT, () -> x.kind());
            Checks.due("fault of <" + text + ">", x.fault(), wrong);
            return false;
        }
        OrderlyNets plain = Checks.ofKind(reader.plain());
        Checks.due("kind of <" + text + ">", x.kind(), plain.level(reader.size));
        Checks.due("fault of <" + text + ">", x.fault(), OrderlyNets.NONE);
        Checks.due("size of <" + text + ">", x.count(0), reader.size);
        Checks.due("dark of <" + text + ">", x.count(1), reader.dark ? 1 : 0);
        Checks.due("rules of <" + text + ">", x.count(2), reader.rules);
        Checks.due("ends of <" + text + ">", x.count(3), reader.ends);
        Checks.due("full of <" + text + ">", x.full(OrderlyNets.NONE), plain.full(OrderlyNets.NONE));
        return true;
    }

    private static boolean checkNet() {
        int size = between(1, 6);
        boolean dark = size < 6 && random(4) > 0;
        List<String> things = netThings(size);
        if (random(3) == 0) {
            spoil(things);
        }
        String text = text(things);
        Reader reader = new Reader(text);
        int wrong = reader.net(size, dark);
        OrderlyNets x = Checks.ofKind("nodes " + size + (dark ? " dark" : ""));
        Checks.tape(x, text);
        if (wrong != OrderlyNets.NONE) {
            Checks.thrown("told of <" + text + ">", Checks.ARGUMENT, () -> x.told());
            Checks.due("fault of <" + text + ">", x.fault(), wrong);
            return false;
        }
        int number = x.told();
        Checks.due("fault of <" + text + ">", x.fault(), OrderlyNets.NONE);
        Checks.due("nodes of <" + text + ">", x.form(0), reader.size);
        Checks.due("edges of <" + text + ">", x.form(3), reader.edges);
        Checks.due("number of <" + text + ">", x.net(reader.size, number, 0), x.form(1));
        Checks.due("dark nodes of <" + text + ">", Integer.bitCount(x.net(reader.size, number, 10)), reader.darks);
        return true;
    }

    /** Cuts a text into all its things first, then goes through them one by one. */
    private static final class Reader {
        private final List<String> things = new ArrayList<>();
        private final List<Integer> begins = new ArrayList<>();
        private final Set<String> told = new HashSet<>();
        private int at;
        private int size;
        private boolean dark;
        private int rules;
        private int ends;
        private int patterns;
        private int edges;
        private int darks;

        Reader(String text) {
            int i = 0;
            while (i < text.length()) {
                int sort = sort(text.charAt(i));
                int behind = i + 1;
                while (sort > 0 && behind < text.length() && sort(text.charAt(behind)) == sort) {
                    behind++;
                }
                if (text.charAt(i) != ' ') {
                    things.add(text.substring(i, behind));
                    begins.add(i);
                }
                i = behind;
            }
            things.add("");
            begins.add(text.length());
        }

        String plain() {
            return String.join(" ", things).trim();
        }

        private boolean comes(String thing) {
            boolean comes = things.get(at).equals(thing);
            at += comes ? 1 : 0;
            return comes;
        }

        private boolean numberComes(int least, int most) {
            String thing = things.get(at);
            boolean comes = thing.matches("[0-9]{1,2}") && value(at) >= least && value(at) <= most;
            at += comes ? 1 : 0;
            return comes;
        }

        private int value(int i) {
            return Integer.parseInt(things.get(i));
        }

        private int latest() {
            return value(at - 1);
        }

        /** Where it is first wrong. */
        int kind() {
            return readKind() ? OrderlyNets.NONE : begins.get(at);
        }

        private boolean readKind() {
            if (!comes("nodes") || !numberComes(1, 6)) {
                return false;
            }
            size = latest();
            dark = size < 6 && comes("dark");
            while (comes(";")) {
                if (rules + ends == 14 || !readLine()) {
                    return false;
                }
            }
            return comes("");
        }

        private boolean readLine() {
            String word = things.get(at);
            boolean isEnd = word.equals("end");
            if (isEnd) {
                at++;
                word = "end " + things.get(at);
            }
            boolean barred = word.equals("unlike") && !dark || word.equals("without") && patterns == 2;
            boolean once = !word.equals("free") && !word.equals("without");
            if (!Arrays.asList(LINES).contains(word) || barred || once && !told.add(word)) {
                return false;
            }
            at++;
            rules += isEnd ? 0 : 1;
            ends += isEnd ? 1 : 0;
            switch (word) {
                case "most", "end least": return numberComes(0, 5);
                case "free": return numberComes(3, 6);
                case "end edges": return numberComes(0, 15) && comes("to") && numberComes(value(at - 2), 15);
                case "without":
                    patterns++;
                    return numberComes(2, 4) && readEdges(latest());
                default: return true;
            }
        }

        private boolean readEdges(int nodes) {
            Set<String> pairs = new HashSet<>();
            boolean more = comes(":");
            while (more) {
                if (!numberComes(0, nodes - 1)) {
                    return false;
                }
                int a = latest();
                if (!numberComes(0, nodes - 1)) {
                    return false;
                }
                int b = latest();
                if (a == b || !pairs.add(Math.min(a, b) + " " + Math.max(a, b))) {
                    at--;
                    return false;
                }
                more = comes(",");
            }
            edges = pairs.size();
            return true;
        }

        int net(int most, boolean mayBeDark) {
            return readNet(most, mayBeDark) ? OrderlyNets.NONE : begins.get(at);
        }

        private boolean readNet(int most, boolean mayBeDark) {
            if (!comes("net") || !numberComes(1, most)) {
                return false;
            }
            size = latest();
            if (mayBeDark && comes("dark") && !readDarks()) {
                return false;
            }
            return readEdges(size) && comes("");
        }

        private boolean readDarks() {
            Set<Integer> nodes = new HashSet<>();
            do {
                if (!numberComes(0, size - 1)) {
                    return false;
                }
                if (!nodes.add(latest())) {
                    at--;
                    return false;
                }
            } while (things.get(at).matches("[0-9]+"));
            darks = nodes.size();
            return true;
        }
    }
}
