/** What lies within what, nets with one node told apart, and how nets of a level differ. */
final class Promise16To22Tests extends Checks {
    private static final String EMPTY_LEVELS = "nodes 3; without 2; without 2: 0 1";

    public static void main(String[] args) {
        runAll(Promise16To22Tests.class);
    }

    // ---- promise 16

    static void promise16_howManySetsAreLike() {
        OrderlyNets x = ofKind("nodes 4");
        is(x.within(4, 6, 2, 1), 3);
        is(x.within(4, 6, 2, 0), 3);
        is(x.within(4, 6, 3, 2), 2);
        is(x.within(4, 6, 3, 1), 2);
        is(x.within(4, 6, 3, 0), 0);
        is(x.within(4, 10, 3, 3), 4);
        is(ofKind("nodes 6").within(6, 155, 3, 3), 20);
    }

    static void promise16_takenByThemselves() {
        OrderlyNets x = ofKind("nodes 4");
        is(x.within(4, 10, 3, 2), 0);
        is(x.within(4, 8, 4, 6), 0);
        is(x.within(4, 8, 3, 2), 4);
    }

    static void promise16_ofOneNode() {
        OrderlyNets x = ofKind("nodes 6");
        is(x.within(1, 0, 1, 0), 1);
        is(x.within(6, 77, 1, 0), 6);
    }

    static void promise16_itselfOnce() {
        OrderlyNets x = ofKind("nodes 4");
        for (int k = 0; k < 11; k++) {
            is(x.within(4, k, 4, k), 1);
        }
    }

    static void promise16_anotherOfTheSameLevel() {
        OrderlyNets x = ofKind("nodes 4");
        is(x.within(4, 6, 4, 5), 0);
        is(x.within(4, 5, 4, 6), 0);
    }

    static void promise16_aLargerOne() {
        OrderlyNets x = ofKind("nodes 4");
        is(x.within(3, 0, 4, 0), 0);
        is(x.within(1, 0, 2, 0), 0);
        is(x.within(1, 0, 4, 10), 0);
    }

    static void promise16_netsOfTheSameFormAreUnlikeIfNotAsManyNodes() {
        OrderlyNets x = ofKind("nodes 4");
        is(x.within(4, 0, 2, 0), 6);
        is(x.within(4, 0, 3, 0), 4);
        is(x.within(2, 0, 3, 0), 0);
    }

    static void promise16_coloursMatter() {
        OrderlyNets x = ofKind("nodes 3 dark");
        int k = told(x, "net 3 dark 2: 0 2, 1 2");
        is(x.within(3, k, 1, 1), 1);
        is(x.within(3, k, 1, 0), 2);
        is(x.within(3, k, 2, 3), 2);
        is(x.within(3, k, 2, 0), 1);
        is(x.within(3, k, 2, 1), 0);
        is(x.within(3, k, 2, 4), 0);
    }

    static void promise16_noSuchFirstNet() {
        refused("nodes 3", INDEX, x -> x.within(3, 4, 1, 0));
        refused("nodes 3", INDEX, x -> x.within(3, -1, 1, 0));
        refused("nodes 3", INDEX, x -> x.within(4, 0, 1, 0));
        refused("nodes 3", INDEX, x -> x.within(0, 0, 1, 0));
        refused(EMPTY_LEVELS, INDEX, x -> x.within(2, 0, 1, 0));
    }

    static void promise16_noSuchSecondNet() {
        refused("nodes 3", INDEX, x -> x.within(1, 0, 3, 4));
        refused("nodes 3", INDEX, x -> x.within(1, 0, 3, -1));
        refused("nodes 3", INDEX, x -> x.within(1, 0, 4, 0));
        refused("nodes 3", INDEX, x -> x.within(1, 0, 0, 0));
        refused(EMPTY_LEVELS, INDEX, x -> x.within(1, 0, 2, 0));
    }

    // ---- promise 17

    static void promise17_withOneNodeToldApart() {
        OrderlyNets x = ofKind("nodes 6");
        int[] rooted = {1, 2, 6, 20, 90, 544};
        for (int n = 1; n <= 6; n++) {
            is(x.rooted(n), rooted[n - 1]);
        }
    }

    static void promise17_darkOnes() {
        OrderlyNets x = ofKind("nodes 2 dark");
        is(x.rooted(1), 2);
        is(x.rooted(2), 8);
    }

    static void promise17_ofAnEmptyLevel() {
        is(ofKind(EMPTY_LEVELS).rooted(2), 0);
        is(ofKind(EMPTY_LEVELS).rooted(1), 1);
    }

    static void promise17_rulesMatterEndsDoNot() {
        is(ofKind("nodes 3; free 3").rooted(3), 5);
        is(ofKind("nodes 3; end joined").rooted(3), 6);
    }

    static void promise17_noSuchLevel() {
        for (int n : new int[] {LEAST, -1, 0, 4, 7, MOST}) {
            refused("nodes 3", INDEX, x -> x.rooted(n));
        }
    }

    // ---- promise 18

    static void promise18_joinedIfTheyAreNot() {
        OrderlyNets x = ofKind("nodes 3");
        is(x.turned(3, 0, 1, 2), 1);
        is(x.turned(3, 1, 0, 1), 2);
        is(x.turned(3, 2, 0, 1), 3);
    }

    static void promise18_notJoinedIfTheyAre() {
        OrderlyNets x = ofKind("nodes 3");
        is(x.turned(3, 3, 0, 1), 2);
        is(x.turned(3, 2, 2, 0), 1);
        is(x.turned(3, 1, 1, 2), 0);
    }

    static void promise18_theNodesInEitherOrder() {
        OrderlyNets x = ofKind("nodes 6");
        for (int a = 0; a < 6; a++) {
            for (int b = 0; b < a; b++) {
                is(x.turned(6, 77, a, b), x.turned(6, 77, b, a));
            }
        }
    }

    static void promise18_noneIfItBreaksARule() {
        is(ofKind("nodes 3; free 3").turned(3, 2, 0, 1), NONE);
        is(ofKind("nodes 2; most 0").turned(2, 0, 0, 1), NONE);
        is(ofKind("nodes 2; without 2").turned(2, 0, 1, 0), NONE);
        is(ofKind("nodes 2 dark; unlike").turned(2, 0, 0, 1), NONE);
    }

    static void promise18_bothNodesAreOne() {
        refused("nodes 3", ARGUMENT, x -> x.turned(3, 0, 0, 0));
        refused("nodes 3", ARGUMENT, x -> x.turned(3, 3, 2, 2));
        refused("nodes 3", ARGUMENT, x -> x.turned(1, 0, 0, 0));
    }

    static void promise18_noSuchNode() {
        for (int node : new int[] {LEAST, -1, 3, 32, MOST}) {
            refused("nodes 3", INDEX, x -> x.turned(3, 0, node, 0));
            refused("nodes 3", INDEX, x -> x.turned(3, 0, 0, node));
        }
    }

    static void promise18_noSuchNet() {
        refused("nodes 3", INDEX, x -> x.turned(3, 4, 0, 1));
        refused("nodes 3", INDEX, x -> x.turned(3, -1, 0, 1));
        refused("nodes 3", INDEX, x -> x.turned(0, 0, 0, 1));
        refused("nodes 3", INDEX, x -> x.turned(4, 0, 0, 1));
        refused(EMPTY_LEVELS, INDEX, x -> x.turned(2, 0, 0, 1));
    }

    static void promise18_noSuchNodeAheadOfBothAreOne() {
        refused("nodes 3", INDEX, x -> x.turned(3, 0, 3, 3));
        refused("nodes 3", INDEX, x -> x.turned(3, 0, -1, -1));
        refused("nodes 3", INDEX, x -> x.turned(3, 4, 1, 1));
    }

    // ---- promise 19

    static void promise19_theFewestEdges() {
        OrderlyNets x = ofKind("nodes 4");
        is(x.apart(4, 6, 8), 1);
        is(x.apart(4, 3, 8), 3);
        is(x.apart(4, 3, 6), 2);
        is(x.apart(4, 3, 4), 2);
        is(x.apart(4, 5, 2), 2);
        is(x.apart(4, 0, 10), 6);
        is(ofKind("nodes 6").apart(6, 0, 155), 15);
    }

    static void promise19_ofANetAndItselfNone() {
        OrderlyNets x = ofKind("nodes 6");
        is(x.apart(1, 0, 0), 0);
        is(x.apart(6, 155, 155), 0);
        is(x.apart(6, 77, 77), 0);
    }

    static void promise19_asFarBack() {
        OrderlyNets x = ofKind("nodes 4");
        for (int k = 0; k < 11; k++) {
            for (int j = 0; j < k; j++) {
                is(x.apart(4, k, j), x.apart(4, j, k));
            }
        }
    }

    static void promise19_noneIfNotAsManyDark() {
        OrderlyNets x = ofKind("nodes 2 dark");
        is(x.apart(2, 0, 2), NONE);
        is(x.apart(2, 5, 3), NONE);
        is(x.apart(2, 0, 4), NONE);
        is(x.apart(1, 0, 1), NONE);
        is(x.apart(2, 2, 3), 1);
        is(x.apart(2, 4, 5), 1);
        is(x.apart(2, 4, 4), 0);
    }

    static void promise19_darkNodesStayWhereTheyAre() {
        OrderlyNets x = ofKind("nodes 3 dark");
        int one = told(x, "net 3 dark 0: 0 1, 0 2");
        int two = told(x, "net 3 dark 0: 0 1, 1 2");
        is(x.apart(3, one, two), 2);
    }

    static void promise19_rulesOnTheWayDoNotMatter() {
        OrderlyNets x = ofKind("nodes 2; without 2");
        is(x.apart(2, 0, 0), 0);
        OrderlyNets y = ofKind("nodes 4; free 3");
        is(y.apart(4, 3, 6), 3);
    }

    static void promise19_noSuchNet() {
        refused("nodes 3", INDEX, x -> x.apart(3, 4, 0));
        refused("nodes 3", INDEX, x -> x.apart(3, 0, 4));
        refused("nodes 3", INDEX, x -> x.apart(3, -1, 0));
        refused("nodes 3", INDEX, x -> x.apart(3, 0, -1));
        refused("nodes 3", INDEX, x -> x.apart(0, 0, 0));
        refused("nodes 3", INDEX, x -> x.apart(4, 0, 0));
        refused("nodes 3", INDEX, x -> x.apart(2, 0, 2));
        refused(EMPTY_LEVELS, INDEX, x -> x.apart(3, 0, 0));
    }

    // ---- promise 20

    static void promise20_theMostNodesThatAreLike() {
        OrderlyNets x = ofKind("nodes 4");
        is(x.common(4, 3, 4, 8), 3);
        is(x.common(4, 5, 4, 3), 2);
        is(x.common(4, 6, 4, 5), 3);
        is(x.common(4, 7, 4, 4), 3);
    }

    static void promise20_itself() {
        OrderlyNets x = ofKind("nodes 6");
        is(x.common(6, 77, 6, 77), 6);
        is(x.common(1, 0, 1, 0), 1);
    }

    static void promise20_oneLiesWithinTheOther() {
        OrderlyNets x = ofKind("nodes 4");
        is(x.common(3, 2, 4, 8), 3);
        is(x.common(4, 8, 3, 2), 3);
        is(x.common(1, 0, 4, 10), 1);
        is(x.common(4, 10, 1, 0), 1);
    }

    static void promise20_justOneNode() {
        OrderlyNets x = ofKind("nodes 6");
        is(x.common(6, 0, 6, 155), 1);
        is(x.common(6, 155, 6, 0), 1);
    }

    static void promise20_noNode() {
        OrderlyNets x = ofKind("nodes 2 dark");
        is(x.common(1, 0, 1, 1), 0);
        is(x.common(2, 0, 2, 4), 0);
        is(x.common(2, 5, 2, 1), 0);
    }

    static void promise20_noSuchFirstNet() {
        refused("nodes 3", INDEX, x -> x.common(3, 4, 1, 0));
        refused("nodes 3", INDEX, x -> x.common(3, -1, 1, 0));
        refused("nodes 3", INDEX, x -> x.common(4, 0, 1, 0));
        refused("nodes 3", INDEX, x -> x.common(0, 0, 1, 0));
        refused(EMPTY_LEVELS, INDEX, x -> x.common(2, 0, 1, 0));
    }

    static void promise20_noSuchSecondNet() {
        refused("nodes 3", INDEX, x -> x.common(1, 0, 3, 4));
        refused("nodes 3", INDEX, x -> x.common(1, 0, 3, -1));
        refused("nodes 3", INDEX, x -> x.common(1, 0, 4, 0));
        refused("nodes 3", INDEX, x -> x.common(1, 0, 0, 0));
        refused(EMPTY_LEVELS, INDEX, x -> x.common(1, 0, 2, 0));
    }

    // ---- promise 21

    static void promise21_unlikeEdges() {
        OrderlyNets x = ofKind("nodes 4");
        int[] lines = {0, 1, 1, 1, 1, 1, 2, 3, 1, 2, 1};
        for (int k = 0; k < 11; k++) {
            is(x.lines(4, k), lines[k]);
        }
    }

    static void promise21_noneWithoutEdges() {
        is(ofKind("nodes 1").lines(1, 0), 0);
        is(ofKind("nodes 6").lines(6, 0), 0);
    }

    static void promise21_oneIfAllAreJoined() {
        is(ofKind("nodes 6").lines(6, 155), 1);
        is(ofKind("nodes 2").lines(2, 1), 1);
    }

    static void promise21_coloursMatter() {
        OrderlyNets x = ofKind("nodes 3 dark");
        is(x.lines(3, told(x, "net 3: 0 1, 1 2, 2 0")), 1);
        is(x.lines(3, told(x, "net 3 dark 0: 0 1, 1 2, 2 0")), 2);
        is(x.lines(3, told(x, "net 3 dark 0: 0 1, 1 2")), 2);
        is(x.lines(3, told(x, "net 3 dark 1: 0 1, 1 2")), 1);
    }

    static void promise21_noSuchNet() {
        refused("nodes 3", INDEX, x -> x.lines(3, 4));
        refused("nodes 3", INDEX, x -> x.lines(3, -1));
        refused("nodes 3", INDEX, x -> x.lines(0, 0));
        refused("nodes 3", INDEX, x -> x.lines(4, 0));
        refused(EMPTY_LEVELS, INDEX, x -> x.lines(3, 0));
    }

    // ---- promise 22

    static void promise22_twoThatHaveTheSameDeck() {
        OrderlyNets x = ofKind("nodes 6");
        int[] twins = {1, 0, 0, 0, 0};
        for (int n = 2; n <= 6; n++) {
            is(x.twins(n), twins[n - 2]);
        }
    }

    /** One edge and the path of three leave the same numbers, but not as many of each. */
    static void promise22_asManyOfEachNumber() {
        OrderlyNets x = ofKind("nodes 3; free 3");
        int[][] decks = {{0, 0, 0}, {1, 0, 0}, {1, 1, 0}};
        for (int k = 0; k < 3; k++) {
            for (int node = 0; node < 3; node++) {
                is(x.deck(3, k, node), decks[k][node]);
            }
        }
        is(x.twins(3), 0);
    }

    static void promise22_coloursMatter() {
        is(ofKind("nodes 2 dark").twins(2), 3);
    }

    static void promise22_nIs1() {
        refused("nodes 3", STATE, x -> x.twins(1));
        refused("nodes 1", STATE, x -> x.twins(1));
    }

    static void promise22_ofAnEmptyLevel() {
        is(ofKind(EMPTY_LEVELS).twins(2), 0);
        is(ofKind(EMPTY_LEVELS).twins(3), 0);
    }

    static void promise22_ofOneNetAlone() {
        is(ofKind("nodes 2; most 0").twins(2), 0);
    }

    static void promise22_noSuchLevel() {
        for (int n : new int[] {LEAST, -1, 0, 4, 7, MOST}) {
            refused("nodes 3", INDEX, x -> x.twins(n));
        }
        refused("nodes 1", INDEX, x -> x.twins(2));
    }
}
