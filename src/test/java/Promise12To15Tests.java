/** Nets that have a node more, or less, and those with all the other edges. */
final class Promise12To15Tests extends Checks {
    private static final String EMPTY_LEVELS = "nodes 3; without 2; without 2: 0 1";

    public static void main(String[] args) {
        runAll(Promise12To15Tests.class);
    }

    // ---- promise 12

    static void promise12_itsNumberOnTheNextLevel() {
        OrderlyNets x = ofKind("nodes 4");
        // The path of three: 0 2, 1 2.
        int[] grown = {2, 6, 6, 8, 3, 7, 7, 9};
        for (int set = 0; set < 8; set++) {
            is(x.grown(3, 2, set, false), grown[set]);
        }
    }

    static void promise12_joinedToNone() {
        is(ofKind("nodes 6").grown(5, 0, 0, false), 0);
        is(ofKind("nodes 3").grown(2, 1, 0, false), 1);
    }

    static void promise12_joinedToAll() {
        is(ofKind("nodes 6").grown(5, 33, 31, false), 155);
        is(ofKind("nodes 3").grown(2, 1, 3, false), 3);
    }

    static void promise12_noneIfItBreaksARule() {
        is(ofKind("nodes 4; free 3").grown(3, 2, 5, false), NONE);
        is(ofKind("nodes 3; most 1").grown(2, 1, 1, false), NONE);
        is(ofKind("nodes 3; most 1").grown(2, 0, 3, false), NONE);
        is(ofKind("nodes 2 dark; unlike").grown(1, 0, 1, false), NONE);
        is(ofKind("nodes 2 dark; unlike").grown(1, 1, 1, true), NONE);
        is(ofKind("nodes 3; without 2").grown(2, 0, 2, false), NONE);
        is(ofKind(EMPTY_LEVELS).grown(1, 0, 0, false), NONE);
    }

    static void promise12_endsDoNotMatter() {
        is(ofKind("nodes 3; end joined; end least 2").grown(2, 0, 0, false), 0);
    }

    static void promise12_oneOfEachColour() {
        OrderlyNets x = ofKind("nodes 2 dark");
        is(x.grown(1, 0, 0, false), 0);
        is(x.grown(1, 0, 1, false), 1);
        is(x.grown(1, 0, 0, true), 2);
        is(x.grown(1, 0, 1, true), 3);
        is(x.grown(1, 1, 0, false), 2);
        is(x.grown(1, 1, 1, false), 3);
        is(x.grown(1, 1, 0, true), 4);
        is(x.grown(1, 1, 1, true), 5);
    }

    static void promise12_aNodeOfTheSetIsNone() {
        for (int set : new int[] {4, 5, 7, 8, 1 << 6, 1 << 30, LEAST, LEAST + 1, -1, -4, MOST}) {
            refused("nodes 3", ARGUMENT, x -> x.grown(2, 0, set, false));
        }
        refused("nodes 3", ARGUMENT, x -> x.grown(1, 0, 2, false));
        refused("nodes 6", ARGUMENT, x -> x.grown(5, 0, 32, false));
    }

    static void promise12_darkNodesMayNotBe() {
        refused("nodes 3", ARGUMENT, x -> x.grown(2, 0, 0, true));
    }

    static void promise12_nIsSize() {
        refused("nodes 3", STATE, x -> x.grown(3, 0, 0, false));
        refused("nodes 1", STATE, x -> x.grown(1, 0, 1, false));
        refused("nodes 6", STATE, x -> x.grown(6, 155, 63, false));
        refused("nodes 5 dark", STATE, x -> x.grown(5, 0, 0, true));
    }

    static void promise12_onTheLevelAheadOfSize() {
        is(ofKind("nodes 6").grown(5, 0, 1, false), 1);
        is(ofKind("nodes 2").grown(1, 0, 1, false), 1);
    }

    static void promise12_noSuchNet() {
        refused("nodes 3", INDEX, x -> x.grown(2, 2, 0, false));
        refused("nodes 3", INDEX, x -> x.grown(2, -1, 0, false));
        refused("nodes 3", INDEX, x -> x.grown(0, 0, 0, false));
        refused("nodes 3", INDEX, x -> x.grown(4, 0, 0, false));
        refused(EMPTY_LEVELS, INDEX, x -> x.grown(2, 0, 0, false));
    }

    static void promise12_theNetAheadOfTheSet() {
        refused("nodes 3", INDEX, x -> x.grown(2, 2, 4, false));
        refused("nodes 3", INDEX, x -> x.grown(2, 2, 0, true));
        refused("nodes 3", INDEX, x -> x.grown(3, 4, -1, true));
    }

    static void promise12_theSetAheadOfTheLevel() {
        refused("nodes 3", ARGUMENT, x -> x.grown(3, 0, 8, false));
        refused("nodes 3", ARGUMENT, x -> x.grown(3, 0, 0, true));
    }

    // ---- promise 13

    static void promise13_ifTheNodeThatCameIsALastOne() {
        OrderlyNets x = ofKind("nodes 4");
        // The path of three, 0 2, 1 2. Last nodes: of the path of four the two between, of the circle all.
        boolean[] taken = {false, false, false, true, false, false, false, true};
        for (int set = 0; set < 8; set++) {
            is(x.taken(3, 2, set, false) ? 1 : 0, taken[set] ? 1 : 0);
        }
    }

    static void promise13_starByItsMiddle() {
        OrderlyNets x = ofKind("nodes 4");
        yes(x.taken(3, 0, 7, false));
        no(x.taken(3, 2, 4, false));
    }

    static void promise13_lightBehindDarkIsNot() {
        OrderlyNets x = ofKind("nodes 2 dark");
        no(x.taken(1, 1, 0, false));
        no(x.taken(1, 1, 1, false));
        yes(x.taken(1, 0, 0, true));
        yes(x.taken(1, 0, 1, true));
        yes(x.taken(1, 1, 0, true));
        yes(x.taken(1, 0, 0, false));
    }

    static void promise13_noIfItBreaksARule() {
        no(ofKind("nodes 3; free 3").taken(2, 1, 3, false));
        yes(ofKind("nodes 3").taken(2, 1, 3, false));
        no(ofKind("nodes 2 dark; unlike").taken(1, 1, 1, true));
        no(ofKind("nodes 2; most 0").taken(1, 0, 1, false));
        no(ofKind(EMPTY_LEVELS).taken(1, 0, 1, false));
    }

    static void promise13_endsDoNotMatter() {
        yes(ofKind("nodes 3; end joined; end least 2").taken(2, 0, 0, false));
    }

    static void promise13_aNodeOfTheSetIsNone() {
        for (int set : new int[] {4, 7, 8, 1 << 30, LEAST, -1, MOST}) {
            refused("nodes 3", ARGUMENT, x -> x.taken(2, 0, set, false));
        }
    }

    static void promise13_darkNodesMayNotBe() {
        refused("nodes 3", ARGUMENT, x -> x.taken(2, 0, 0, true));
    }

    static void promise13_nIsSize() {
        refused("nodes 3", STATE, x -> x.taken(3, 0, 0, false));
        refused("nodes 1", STATE, x -> x.taken(1, 0, 0, false));
        refused("nodes 6", STATE, x -> x.taken(6, 0, 63, false));
    }

    static void promise13_noSuchNet() {
        refused("nodes 3", INDEX, x -> x.taken(2, 2, 0, false));
        refused("nodes 3", INDEX, x -> x.taken(2, -1, 0, false));
        refused("nodes 3", INDEX, x -> x.taken(0, 0, 0, false));
        refused("nodes 3", INDEX, x -> x.taken(4, 0, 0, false));
    }

    static void promise13_theNetAheadOfTheSet() {
        refused("nodes 3", INDEX, x -> x.taken(3, 4, 8, true));
        refused("nodes 3", INDEX, x -> x.taken(3, 4, 0, false));
    }

    static void promise13_theSetAheadOfTheLevel() {
        refused("nodes 3", ARGUMENT, x -> x.taken(3, 0, 8, false));
        refused("nodes 3", ARGUMENT, x -> x.taken(3, 0, 0, true));
    }

    // ---- promise 14

    static void promise14_whatIsLeftWithoutANode() {
        OrderlyNets x = ofKind("nodes 4");
        // The path, 0 3, 3 2, 2 1: without an end a path, else one edge.
        int[] deck = {2, 2, 1, 1};
        for (int node = 0; node < 4; node++) {
            is(x.deck(4, 6, node), deck[node]);
        }
        is(x.deck(4, 3, 3), 0);
        is(x.deck(4, 3, 0), 2);
        is(x.deck(4, 10, 0), 3);
    }

    static void promise14_onLevel2() {
        OrderlyNets x = ofKind("nodes 2 dark");
        is(x.deck(2, 3, 0), 1);
        is(x.deck(2, 3, 1), 0);
    }

    static void promise14_nIs1() {
        refused("nodes 3", STATE, x -> x.deck(1, 0, 0));
        refused("nodes 1 dark", STATE, x -> x.deck(1, 1, 0));
    }

    static void promise14_noSuchNode() {
        for (int node : new int[] {LEAST, -1, 3, 32, MOST}) {
            refused("nodes 3", INDEX, x -> x.deck(3, 0, node));
        }
        refused("nodes 3", INDEX, x -> x.deck(2, 0, 2));
    }

    static void promise14_noSuchNet() {
        refused("nodes 3", INDEX, x -> x.deck(3, 4, 0));
        refused("nodes 3", INDEX, x -> x.deck(3, -1, 0));
        refused("nodes 3", INDEX, x -> x.deck(0, 0, 0));
        refused("nodes 3", INDEX, x -> x.deck(4, 0, 0));
        refused(EMPTY_LEVELS, INDEX, x -> x.deck(2, 0, 0));
    }

    static void promise14_theNodeAheadOfLevel1() {
        refused("nodes 3", INDEX, x -> x.deck(1, 0, 1));
        refused("nodes 3", INDEX, x -> x.deck(1, 0, -1));
        refused("nodes 3", INDEX, x -> x.deck(1, 1, 0));
    }

    // ---- promise 15

    static void promise15_itsNumberOnTheSameLevel() {
        OrderlyNets x = ofKind("nodes 4");
        int[] other = {10, 9, 7, 4, 3, 8, 6, 2, 5, 1, 0};
        for (int k = 0; k < 11; k++) {
            is(x.other(4, k), other[k]);
        }
    }

    static void promise15_ofOneNodeItself() {
        is(ofKind("nodes 1").other(1, 0), 0);
        is(ofKind("nodes 1 dark").other(1, 1), 1);
    }

    static void promise15_noneIfItBreaksARule() {
        is(ofKind("nodes 3; free 3").other(3, 0), NONE);
        is(ofKind("nodes 3; free 3").other(3, 1), 2);
        is(ofKind("nodes 2 dark; unlike").other(2, 0), NONE);
        is(ofKind("nodes 2; most 0").other(2, 0), NONE);
    }

    static void promise15_withTheSameColours() {
        OrderlyNets x = ofKind("nodes 2 dark");
        int[] other = {1, 0, 3, 2, 5, 4};
        for (int k = 0; k < 6; k++) {
            is(x.other(2, k), other[k]);
        }
    }

    static void promise15_endsDoNotMatter() {
        is(ofKind("nodes 3; end joined").other(3, 3), 0);
    }

    static void promise15_noSuchNet() {
        refused("nodes 3", INDEX, x -> x.other(3, 4));
        refused("nodes 3", INDEX, x -> x.other(3, -1));
        refused("nodes 3", INDEX, x -> x.other(0, 0));
        refused("nodes 3", INDEX, x -> x.other(4, 0));
        refused("nodes 3", INDEX, x -> x.other(LEAST, MOST));
        refused(EMPTY_LEVELS, INDEX, x -> x.other(3, 0));
    }
}
