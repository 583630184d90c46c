/** Levels, and what each net on them is. */
final class Promise07To11Tests extends Checks {
    private static final String EMPTY_LEVELS = "nodes 3; without 2; without 2: 0 1";
    private static final String[] ON_LEVEL_4 = {
        "net 4", "net 4: 0 1", "net 4: 0 1, 1 2", "net 4: 0 1, 0 2, 0 3", "net 4: 0 1, 1 2, 2 0", "net 4: 0 1, 2 3",
        "net 4: 0 1, 1 2, 2 3", "net 4: 0 1, 1 2, 2 0, 0 3", "net 4: 0 1, 1 2, 2 3, 3 0",
        "net 4: 0 1, 1 2, 2 3, 3 0, 0 2", "net 4: 0 1, 1 2, 2 3, 3 0, 0 2, 1 3",
    };

    public static void main(String[] args) {
        runAll(Promise07To11Tests.class);
    }

    /** What a number of each net of level 4 is, the eleven as they stand above. */
    private static void eachOfLevel4(int what, int... want) {
        OrderlyNets x = ofKind("nodes 4");
        is(x.level(4), want.length);
        for (int k = 0; k < want.length; k++) {
            is(told(x, ON_LEVEL_4[k]), k);
            is(x.net(4, k, what), want[k]);
        }
    }

    private static int ofNet(String kind, String text, int what) {
        OrderlyNets x = ofKind(kind);
        int k = told(x, text);
        return x.net(x.form(0), k, what);
    }

    // ---- promise 7

    static void promise07_noLevel0() {
        refused("nodes 3", INDEX, x -> x.level(0));
    }

    static void promise07_noneBelow0() {
        refused("nodes 3", INDEX, x -> x.level(-1));
        refused("nodes 3", INDEX, x -> x.level(LEAST));
    }

    static void promise07_noneBehindSize() {
        refused("nodes 3", INDEX, x -> x.level(4));
        refused("nodes 6", INDEX, x -> x.level(7));
        refused("nodes 1", INDEX, x -> x.level(2));
        refused("nodes 3", INDEX, x -> x.level(MOST));
    }

    static void promise07_1ToSize() {
        int[] light = {1, 2, 4, 11, 34, 156};
        int[] dark = {2, 6, 20, 90, 544};
        OrderlyNets x = ofKind("nodes 6");
        for (int n = 1; n <= 6; n++) {
            is(x.level(n), light[n - 1]);
        }
        OrderlyNets y = ofKind("nodes 5 dark");
        for (int n = 1; n <= 5; n++) {
            is(y.level(n), dark[n - 1]);
        }
    }

    static void promise07_aLevelMayBeEmpty() {
        OrderlyNets x = ofKind(EMPTY_LEVELS);
        is(x.level(1), 1);
        is(x.level(2), 0);
        is(x.level(3), 0);
    }

    // ---- promise 8

    static void promise08_noSuchLevel() {
        for (int n : new int[] {LEAST, -1, 0, 4, MOST}) {
            refused("nodes 3", INDEX, x -> x.net(n, 0, 0));
        }
    }

    static void promise08_noSuchNet() {
        for (int k : new int[] {LEAST, -1, 4, MOST}) {
            refused("nodes 3", INDEX, x -> x.net(3, k, 0));
        }
        refused("nodes 3", INDEX, x -> x.net(2, 2, 0));
        refused("nodes 3", INDEX, x -> x.net(1, 1, 0));
        refused("nodes 5 dark", INDEX, x -> x.net(5, 544, 0));
    }

    static void promise08_noNetOnAnEmptyLevel() {
        refused(EMPTY_LEVELS, INDEX, x -> x.net(2, 0, 0));
        refused(EMPTY_LEVELS, INDEX, x -> x.net(3, 0, 0));
    }

    static void promise08_anotherWhat() {
        for (int what : new int[] {LEAST, -1, 12, MOST}) {
            refused("nodes 3", ELEMENT, x -> x.net(3, 3, what));
        }
    }

    static void promise08_theNetAheadOfWhat() {
        refused("nodes 3", INDEX, x -> x.net(3, 4, 12));
        refused("nodes 3", INDEX, x -> x.net(0, 0, -1));
    }

    static void promise08_form() {
        eachOfLevel4(0, 0, 1, 3, 7, 19, 20, 21, 23, 54, 55, 183);
        is(ofKind("nodes 1 dark").net(1, 1, 0), 1);
        is(ofKind("nodes 5 dark").net(5, 543, 0), (1 << 15) - 1);
    }

    static void promise08_formHasDarkAheadOfTheEdges() {
        OrderlyNets x = ofKind("nodes 2 dark");
        int[] forms = {0b0_00, 0b0_01, 0b0_10, 0b0_11, 0b1_10, 0b1_11};
        for (int k = 0; k < 6; k++) {
            is(x.net(2, k, 0), forms[k]);
        }
    }

    static void promise08_theLeastFormFirst() {
        OrderlyNets x = ofKind("nodes 6");
        for (int k = 1; k < 156; k++) {
            yes(x.net(6, k - 1, 0) < x.net(6, k, 0));
        }
    }

    static void promise08_edges() {
        eachOfLevel4(1, 0, 1, 2, 3, 3, 2, 3, 4, 4, 5, 6);
        is(ofKind("nodes 6").net(6, 155, 1), 15);
        is(ofKind("nodes 5 dark").net(5, 543, 1), 10);
    }

    static void promise08_symmetries() {
        eachOfLevel4(2, 24, 4, 2, 6, 6, 8, 2, 2, 8, 4, 24);
        is(ofKind("nodes 6").net(6, 0, 2), 720);
        is(ofKind("nodes 2 dark").net(2, 2, 2), 1);
    }

    static void promise08_unlikeNodes() {
        eachOfLevel4(3, 1, 2, 3, 2, 2, 1, 2, 3, 1, 2, 1);
        is(ofKind("nodes 2 dark").net(2, 3, 3), 2);
    }

    static void promise08_lastNodes() {
        eachOfLevel4(4, 15, 12, 8, 8, 14, 15, 12, 8, 15, 12, 15);
        is(ofKind("nodes 1").net(1, 0, 4), 1);
        is(ofKind("nodes 6").net(6, 155, 4), 63);
        is(ofKind("nodes 2 dark").net(2, 2, 4), 2);
    }

    static void promise08_parent() {
        eachOfLevel4(5, 0, 0, 0, 0, 1, 1, 1, 1, 2, 2, 3);
        is(ofKind("nodes 2").net(2, 1, 5), 0);
        is(ofKind("nodes 2 dark").net(2, 4, 5), 1);
    }

    static void promise08_noParentOnLevel1() {
        is(ofKind("nodes 3").net(1, 0, 5), NONE);
        is(ofKind("nodes 1 dark").net(1, 1, 5), NONE);
    }

    static void promise08_children() {
        OrderlyNets x = ofKind("nodes 4");
        int[] children = {4, 4, 2, 1};
        for (int k = 0; k < 4; k++) {
            is(x.net(3, k, 6), children[k]);
        }
    }

    static void promise08_noChildrenOnLevelSize() {
        eachOfLevel4(6, 0, 0, 0, 0, 0, 0, 0, 0, 0, 0, 0);
        is(ofKind("nodes 6").net(6, 0, 6), 0);
        is(ofKind("nodes 1").net(1, 0, 6), 0);
    }

    static void promise08_aNetWithoutChildren() {
        is(ofKind("nodes 3; most 1").net(2, 1, 6), 0);
        is(ofKind(EMPTY_LEVELS).net(1, 0, 6), 0);
    }

    static void promise08_parts() {
        eachOfLevel4(7, 4, 3, 2, 1, 2, 2, 1, 1, 1, 1, 1);
        is(ofKind("nodes 1").net(1, 0, 7), 1);
        is(ofKind("nodes 6").net(6, 0, 7), 6);
        is(ofKind("nodes 6").net(6, 155, 7), 1);
    }

    static void promise08_mostEdgesOnAShortestWay() {
        eachOfLevel4(8, -1, -1, -1, 2, -1, -1, 3, 2, 2, 2, 1);
        is(ofNet("nodes 6", "net 6: 0 1, 1 2, 2 3, 3 4, 4 5", 8), 5);
    }

    static void promise08_noWayBetweenSome() {
        is(ofKind("nodes 2").net(2, 0, 8), NONE);
        is(ofNet("nodes 6", "net 6: 0 1, 1 2, 2 3, 3 4", 8), NONE);
    }

    static void promise08_noWayIsNeededFromOneNode() {
        is(ofKind("nodes 1").net(1, 0, 8), 0);
    }

    static void promise08_shortestCircle() {
        eachOfLevel4(9, 0, 0, 0, 0, 3, 0, 0, 3, 4, 3, 3);
        is(ofNet("nodes 6", "net 6: 0 1, 1 2, 2 3, 3 4, 4 5, 5 0", 9), 6);
        is(ofNet("nodes 6", "net 6: 0 1, 1 2, 2 3, 3 4, 4 0", 9), 5);
        is(ofNet("nodes 6", "net 6: 0 1, 1 2, 2 3, 3 4, 4 5, 5 0, 0 3", 9), 4);
    }

    static void promise08_0WithoutACircle() {
        is(ofKind("nodes 1").net(1, 0, 9), 0);
        is(ofKind("nodes 2").net(2, 1, 9), 0);
        is(ofNet("nodes 6", "net 6: 0 1, 1 2, 2 3, 3 4, 4 5", 9), 0);
    }

    static void promise08_darkNodes() {
        eachOfLevel4(10, 0, 0, 0, 0, 0, 0, 0, 0, 0, 0, 0);
        OrderlyNets x = ofKind("nodes 5 dark");
        is(x.net(5, 0, 10), 0);
        is(x.net(5, 543, 10), 31);
        is(x.net(1, 1, 10), 1);
        is(ofNet("nodes 3 dark", "net 3 dark 0 1", 10), 6);
    }

    static void promise08_keepsTheEnds() {
        OrderlyNets x = ofKind("nodes 3; end least 1; end joined; end edges 2 to 2");
        int[] kept = {0, 0, 1, 0};
        for (int k = 0; k < 4; k++) {
            is(x.net(3, k, 11), kept[k]);
        }
    }

    static void promise08_withoutEndsAllKeepThem() {
        eachOfLevel4(11, 1, 1, 1, 1, 1, 1, 1, 1, 1, 1, 1);
    }

    static void promise08_netsOfOtherLevelsKeepEndsToo() {
        OrderlyNets x = ofKind("nodes 4; end edges 3 to 4");
        is(x.net(3, 2, 11), 0);
        is(x.net(3, 3, 11), 1);
        OrderlyNets y = ofKind("nodes 4; end least 1");
        is(y.net(1, 0, 11), 0);
        is(y.net(2, 1, 11), 1);
        OrderlyNets z = ofKind("nodes 4; end joined");
        is(z.net(1, 0, 11), 1);
        is(z.net(2, 0, 11), 0);
    }

    static void promise08_endEdgesAtBothBounds() {
        OrderlyNets x = ofKind("nodes 4; end edges 2 to 4");
        int[] kept = {0, 0, 1, 1, 1, 1, 1, 1, 1, 0, 0};
        for (int k = 0; k < 11; k++) {
            is(x.net(4, k, 11), kept[k]);
        }
    }

    static void promise08_aDarkNetWhole() {
        int[] mixed = {0b0_10_110, 1, 1, 3, 4, 2, 0, 2, -1, 0, 6, 1};
        for (int what = 0; what < 12; what++) {
            is(ofNet("nodes 3 dark", "net 3 dark 1 2: 0 1", what), mixed[what]);
        }
    }

    // ---- promise 9

    static void promise09_byTheOrderOfTheForm() {
        OrderlyNets x = ofKind("nodes 4");
        // The path: 0 3, 3 2, 2 1.
        boolean[][] joined = {
            {false, false, false, true}, {false, false, true, false}, {false, true, false, true},
            {true, false, true, false},
        };
        for (int a = 0; a < 4; a++) {
            for (int b = 0; b < 4; b++) {
                is(x.joined(4, 6, a, b) ? 1 : 0, joined[a][b] ? 1 : 0);
            }
        }
    }

    static void promise09_aNodeAndItselfAreNot() {
        OrderlyNets x = ofKind("nodes 6");
        for (int node = 0; node < 6; node++) {
            no(x.joined(6, 155, node, node));
        }
        no(x.joined(1, 0, 0, 0));
    }

    static void promise09_aDarkNodeAndItselfAreNot() {
        OrderlyNets x = ofKind("nodes 5 dark");
        for (int node = 0; node < 5; node++) {
            no(x.joined(5, 543, node, node));
        }
    }

    static void promise09_noSuchNode() {
        for (int node : new int[] {LEAST, -1, 3, 31, 32, MOST}) {
            refused("nodes 3", INDEX, x -> x.joined(3, 0, node, 0));
            refused("nodes 3", INDEX, x -> x.joined(3, 0, 0, node));
            refused("nodes 3", INDEX, x -> x.joined(3, 0, node, node));
        }
        refused("nodes 3", INDEX, x -> x.joined(2, 0, 0, 2));
        refused("nodes 3", INDEX, x -> x.joined(1, 0, 1, 0));
    }

    static void promise09_noSuchNet() {
        refused("nodes 3", INDEX, x -> x.joined(3, 4, 0, 1));
        refused("nodes 3", INDEX, x -> x.joined(3, -1, 0, 1));
        refused("nodes 3", INDEX, x -> x.joined(4, 0, 0, 1));
        refused("nodes 3", INDEX, x -> x.joined(0, 0, 0, 0));
        refused(EMPTY_LEVELS, INDEX, x -> x.joined(2, 0, 0, 1));
    }

    // ---- promise 10

    static void promise10_theLeastThatIsLike() {
        OrderlyNets x = ofKind("nodes 4");
        int[][] orbits = {{3, 0, 0, 0, 3}, {6, 0, 0, 2, 2}, {8, 0, 0, 0, 0}, {7, 0, 1, 1, 3}, {1, 0, 0, 2, 2}};
        for (int[] orbit : orbits) {
            for (int node = 0; node < 4; node++) {
                is(x.orbit(4, orbit[0], node), orbit[node + 1]);
            }
        }
    }

    static void promise10_itselfIfItIsTheOnlyOne() {
        is(ofKind("nodes 1").orbit(1, 0, 0), 0);
        is(ofKind("nodes 3").orbit(3, 2, 2), 2);
    }

    static void promise10_lightAndDarkAreUnlike() {
        OrderlyNets x = ofKind("nodes 2 dark");
        is(x.orbit(2, 2, 1), 1);
        is(x.orbit(2, 4, 1), 0);
    }

    static void promise10_noSuchNode() {
        for (int node : new int[] {LEAST, -1, 3, 32, MOST}) {
            refused("nodes 3", INDEX, x -> x.orbit(3, 0, node));
        }
        refused("nodes 3", INDEX, x -> x.orbit(2, 0, 2));
    }

    static void promise10_noSuchNet() {
        refused("nodes 3", INDEX, x -> x.orbit(3, 4, 0));
        refused("nodes 3", INDEX, x -> x.orbit(3, -1, 0));
        refused("nodes 3", INDEX, x -> x.orbit(4, 0, 0));
        refused("nodes 3", INDEX, x -> x.orbit(0, 0, 0));
        refused(EMPTY_LEVELS, INDEX, x -> x.orbit(3, 0, 0));
    }

    // ---- promise 11

    static void promise11_byNumbersFrom0On() {
        OrderlyNets x = ofKind("nodes 4");
        int[][] children = {{0, 1, 2, 3}, {4, 5, 6, 7}, {8, 9}, {10}};
        for (int k = 0; k < 4; k++) {
            for (int i = 0; i < children[k].length; i++) {
                is(x.child(3, k, i), children[k][i]);
            }
            is(x.child(3, k, children[k].length), NONE);
        }
    }

    static void promise11_noneBehindTheLast() {
        OrderlyNets x = ofKind("nodes 3");
        is(x.child(2, 0, 2), 2);
        is(x.child(2, 0, 3), NONE);
        is(x.child(2, 0, MOST), NONE);
    }

    static void promise11_noneBelow0() {
        OrderlyNets x = ofKind("nodes 3");
        is(x.child(2, 1, -1), NONE);
        is(x.child(2, 1, -3), NONE);
        is(x.child(2, 0, LEAST), NONE);
    }

    static void promise11_noneOfANetWithoutChildren() {
        is(ofKind("nodes 3; most 1").child(2, 1, 0), NONE);
        is(ofKind(EMPTY_LEVELS).child(1, 0, 0), NONE);
    }

    static void promise11_noneOnLevelSize() {
        OrderlyNets x = ofKind("nodes 6");
        is(x.child(6, 0, 0), NONE);
        is(x.child(6, 155, 0), NONE);
        is(x.child(5, 0, 0), 0);
        is(ofKind("nodes 1").child(1, 0, 0), NONE);
    }

    static void promise11_noSuchNet() {
        refused("nodes 3", INDEX, x -> x.child(3, 4, 0));
        refused("nodes 3", INDEX, x -> x.child(2, -1, 0));
        refused("nodes 3", INDEX, x -> x.child(0, 0, 0));
        refused("nodes 3", INDEX, x -> x.child(4, 0, 0));
        refused(EMPTY_LEVELS, INDEX, x -> x.child(2, 0, -1));
    }
}
