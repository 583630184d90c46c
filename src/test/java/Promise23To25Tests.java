/** How many nets there are with names, by the cycles of all orders, and how many keep the ends. */
final class Promise23To25Tests extends Checks {
    private static final String EMPTY_LEVELS = "nodes 3; without 2; without 2: 0 1";

    public static void main(String[] args) {
        runAll(Promise23To25Tests.class);
    }

    // ---- promise 23

    static void promise23_withoutRulesAllPairsMayBeJoined() {
        OrderlyNets x = ofKind("nodes 6");
        long[] named = {1, 2, 8, 64, 1024, 32768};
        for (int n = 1; n <= 6; n++) {
            is(x.named(n), named[n - 1]);
        }
    }

    static void promise23_withDarkNodes() {
        OrderlyNets x = ofKind("nodes 5 dark");
        long[] named = {2, 8, 64, 1024, 32768};
        for (int n = 1; n <= 5; n++) {
            is(x.named(n), named[n - 1]);
        }
    }

    static void promise23_thatKeepTheRules() {
        OrderlyNets x = ofKind("nodes 6; forest");
        long[] forests = {1, 2, 7, 38, 291, 2932};
        for (int n = 1; n <= 6; n++) {
            is(x.named(n), forests[n - 1]);
        }
        is(ofKind("nodes 3 dark; unlike").named(3), 1 + 3 * 4 + 3 * 4 + 1);
    }

    static void promise23_ofAnEmptyLevel() {
        is(ofKind(EMPTY_LEVELS).named(2), 0);
        is(ofKind(EMPTY_LEVELS).named(1), 1);
    }

    static void promise23_endsDoNotMatter() {
        is(ofKind("nodes 3; end joined; end least 2").named(3), 8);
    }

    static void promise23_noSuchLevel() {
        for (int n : new int[] {LEAST, -1, 0, 4, 7, MOST}) {
            refused("nodes 3", INDEX, x -> x.named(n));
        }
        refused("nodes 6", INDEX, x -> x.named(7));
    }

    // ---- promise 24

    static void promise24_withAnyNumberOfEdges() {
        OrderlyNets x = new OrderlyNets();
        long[] all = {1, 2, 4, 11, 34, 156};
        for (int n = 1; n <= 6; n++) {
            is(x.cycles(n, NONE), all[n - 1]);
        }
    }

    static void promise24_withEEdges() {
        OrderlyNets x = new OrderlyNets();
        long[] six = {1, 1, 2, 5, 9, 15, 21, 24, 24, 21, 15, 9, 5, 2, 1, 1};
        for (int e = 0; e <= 15; e++) {
            is(x.cycles(6, e), six[e]);
        }
        is(x.cycles(1, 0), 1);
    }

    static void promise24_moreEdgesThanThereMayBe() {
        OrderlyNets x = new OrderlyNets();
        is(x.cycles(1, 1), 0);
        is(x.cycles(2, 2), 0);
        is(x.cycles(5, 11), 0);
        is(x.cycles(5, 10), 1);
        is(x.cycles(5, 15), 0);
    }

    static void promise24_rulesAndSizeDoNotMatter() {
        OrderlyNets x = ofKind("nodes 2; most 0; forest; without 2");
        is(x.cycles(6, NONE), 156);
        is(x.cycles(4, 3), 3);
    }

    static void promise24_darkNodesByTheKind() {
        OrderlyNets x = ofKind("nodes 1 dark");
        long[] all = {2, 6, 20, 90, 544};
        for (int n = 1; n <= 5; n++) {
            is(x.cycles(n, NONE), all[n - 1]);
        }
        is(x.cycles(5, 0), 6);
        is(x.cycles(2, 1), 3);
        is(x.cycles(2, 2), 0);
        kind(x, "nodes 1");
        is(x.cycles(2, 1), 1);
    }

    static void promise24_nodes1To6() {
        for (int n : new int[] {LEAST, -1, 0, 7, MOST}) {
            refused("nodes 3", ARGUMENT, x -> x.cycles(n, 0));
            refused("nodes 3", ARGUMENT, x -> x.cycles(n, NONE));
        }
    }

    static void promise24_withDarkNodesTo5() {
        refused("nodes 3 dark", ARGUMENT, x -> x.cycles(6, 0));
        refused("nodes 3 dark", ARGUMENT, x -> x.cycles(6, NONE));
        refused("nodes 3 dark", ARGUMENT, x -> x.cycles(0, 0));
        is(ofKind("nodes 3 dark").cycles(5, 10), 6);
    }

    static void promise24_edgesNoneOr0To15() {
        for (int e : new int[] {LEAST, -2, 16, MOST}) {
            refused("nodes 3", ARGUMENT, x -> x.cycles(3, e));
            refused("nodes 3 dark", ARGUMENT, x -> x.cycles(3, e));
        }
        is(new OrderlyNets().cycles(6, 15), 1);
        is(new OrderlyNets().cycles(6, 0), 1);
    }

    // ---- promise 25

    static void promise25_theKthThatIsFull() {
        OrderlyNets x = ofKind("nodes 4; end joined");
        int[] full = {3, 6, 7, 8, 9, 10};
        for (int k = 0; k < 6; k++) {
            is(x.full(k), full[k]);
        }
    }

    static void promise25_howManyThereAre() {
        is(ofKind("nodes 4; end joined").full(NONE), 6);
        is(new OrderlyNets().full(NONE), 1);
    }

    static void promise25_withoutEndsAllAre() {
        OrderlyNets x = ofKind("nodes 6");
        is(x.full(NONE), 156);
        is(x.full(155), 155);
        is(x.full(156), NONE);
    }

    static void promise25_noneBehindTheLast() {
        OrderlyNets x = ofKind("nodes 4; end joined");
        is(x.full(5), 10);
        is(x.full(6), NONE);
        is(x.full(MOST), NONE);
    }

    static void promise25_noneBelowNone() {
        OrderlyNets x = ofKind("nodes 4; end joined");
        is(x.full(-2), NONE);
        is(x.full(LEAST), NONE);
    }

    static void promise25_noneIsFull() {
        OrderlyNets x = ofKind("nodes 4; end edges 7 to 15");
        is(x.full(NONE), 0);
        is(x.full(0), NONE);
    }

    static void promise25_ofAnEmptyLevel() {
        is(ofKind(EMPTY_LEVELS).full(NONE), 0);
        is(ofKind(EMPTY_LEVELS).full(0), NONE);
    }

    static void promise25_ofLevelSizeAlone() {
        OrderlyNets x = ofKind("nodes 3; end edges 1 to 1");
        is(x.full(NONE), 1);
        is(x.full(0), 1);
    }

    static void promise25_allEndsAreToBeKept() {
        OrderlyNets x = ofKind("nodes 4; end joined; end edges 4 to 5; end least 2");
        is(x.full(NONE), 2);
        is(x.full(0), 8);
        is(x.full(1), 9);
    }
}
