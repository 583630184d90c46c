/** Shares, and walkers that list them. */
final class Promise28To32Tests extends Checks {
    private static final String EMPTY_LEVELS = "nodes 3; without 2; without 2: 0 1";
    private static final int[] NO_WALKERS = {LEAST, -1, 3, 4, 32, MOST};

    public static void main(String[] args) {
        runAll(Promise28To32Tests.class);
    }

    /** Walker 1 of the seven nets 0 1 2 3 4 5 6, by the nets of level 3 whose number is even: 0 1 2 3 6. */
    private static OrderlyNets walking() {
        OrderlyNets x = ofKind("nodes 4; free 3");
        x.start(1, 3, 2, 0);
        return x;
    }

    private static void lists(OrderlyNets x, int walker, int... want) {
        for (int number : want) {
            is(x.next(walker), number);
        }
        is(x.next(walker), NONE);
    }

    // ---- promise 28

    static void promise28_howManyItHas() {
        OrderlyNets x = ofKind("nodes 4");
        is(x.share(3, 2, 0), 6);
        is(x.share(3, 2, 1), 5);
        is(x.share(3, 4, 0), 4);
        is(x.share(3, 4, 1), 4);
        is(x.share(3, 4, 2), 2);
        is(x.share(3, 4, 3), 1);
    }

    static void promise28_ofLevel1() {
        OrderlyNets x = ofKind("nodes 6");
        is(x.share(1, 1, 0), 156);
        is(x.share(1, 9, 0), 156);
        is(x.share(1, 9, 1), 0);
        OrderlyNets y = ofKind("nodes 2 dark");
        is(y.share(1, 2, 0), 4);
        is(y.share(1, 2, 1), 2);
    }

    static void promise28_ofLevelSizeItItself() {
        OrderlyNets x = ofKind("nodes 4");
        is(x.share(4, 2, 0), 6);
        is(x.share(4, 2, 1), 5);
        is(x.share(4, 9, 1), 2);
        is(x.share(4, 9, 2), 1);
        is(new OrderlyNets().share(1, 1, 0), 1);
    }

    static void promise28_allSharesTogetherAreAll() {
        OrderlyNets x = ofKind("nodes 5 dark");
        for (int d = 1; d <= 5; d++) {
            for (int p = 1; p <= 9; p++) {
                int all = 0;
                for (int i = 0; i < p; i++) {
                    all += x.share(d, p, i);
                }
                is(all, 544);
            }
        }
    }

    static void promise28_noneHasSuchANumber() {
        is(ofKind("nodes 3").share(2, 9, 8), 0);
        is(ofKind(EMPTY_LEVELS).share(2, 1, 0), 0);
        is(ofKind(EMPTY_LEVELS).share(1, 1, 0), 0);
    }

    static void promise28_noWalkerIsNeeded() {
        OrderlyNets x = ofKind("nodes 3");
        is(x.share(1, 1, 0), 4);
        is(x.count(4), 0);
    }

    static void promise28_d1ToSize() {
        for (int d : new int[] {LEAST, -1, 0, 4, 6, MOST}) {
            refused("nodes 3", ARGUMENT, x -> x.share(d, 1, 0));
        }
    }

    static void promise28_p1To9() {
        for (int p : new int[] {LEAST, -1, 0, 10, MOST}) {
            refused("nodes 3", ARGUMENT, x -> x.share(1, p, 0));
        }
        is(ofKind("nodes 3").share(3, 9, 3), 1);
    }

    static void promise28_i0ToPLess1() {
        for (int i : new int[] {LEAST, -1, 3, 4, MOST}) {
            refused("nodes 3", ARGUMENT, x -> x.share(3, 3, i));
        }
        refused("nodes 3", ARGUMENT, x -> x.share(1, 1, 1));
        is(ofKind("nodes 3").share(3, 3, 2), 1);
    }

    // ---- promise 29

    static void promise29_howManyItsShareHas() {
        OrderlyNets x = ofKind("nodes 3");
        is(x.start(0, 2, 2, 0), 3);
        is(x.start(1, 2, 2, 1), 1);
        is(x.start(2, 3, 2, 1), 2);
        is(x.count(4), 7);
    }

    static void promise29_eachWalkerHasItsOwn() {
        OrderlyNets x = ofKind("nodes 3");
        for (int walker = 0; walker < 3; walker++) {
            OrderlyNets y = ofKind("nodes 3");
            y.start(walker, 1, 1, 0);
            is(y.count(4), 1 << walker);
            x.start(walker, 3, 3, walker);
        }
        lists(x, 0, 0, 3);
        lists(x, 2, 2);
        lists(x, 1, 1);
    }

    static void promise29_toldAnewNoneAreListed() {
        OrderlyNets x = walking();
        x.next(1);
        x.next(1);
        is(x.start(1, 3, 2, 0), 5);
        is(x.walker(1, 0), 0);
        is(x.walker(1, 2), NONE);
        is(x.next(1), 0);
        is(x.start(1, 3, 2, 1), 2);
        lists(x, 1, 4, 5);
    }

    static void promise29_aShareWithoutNetsIsOne() {
        OrderlyNets x = ofKind("nodes 3");
        is(x.start(1, 2, 9, 8), 0);
        is(x.count(4), 2);
        is(x.next(1), NONE);
        OrderlyNets y = ofKind(EMPTY_LEVELS);
        is(y.start(0, 1, 1, 0), 0);
        is(y.count(4), 1);
    }

    static void promise29_noSuchWalker() {
        for (int walker : NO_WALKERS) {
            refused("nodes 3", INDEX, x -> x.start(walker, 1, 1, 0));
        }
    }

    static void promise29_dIsNone() {
        for (int d : new int[] {LEAST, -1, 0, 4, MOST}) {
            refused("nodes 3", ARGUMENT, x -> x.start(0, d, 1, 0));
        }
    }

    static void promise29_pIsNone() {
        for (int p : new int[] {LEAST, -1, 0, 10, MOST}) {
            refused("nodes 3", ARGUMENT, x -> x.start(0, 1, p, 0));
        }
    }

    static void promise29_iIsNone() {
        for (int i : new int[] {LEAST, -1, 2, MOST}) {
            refused("nodes 3", ARGUMENT, x -> x.start(0, 1, 2, i));
        }
    }

    static void promise29_refusedTheShareAheadOfItStays() {
        OrderlyNets x = walking();
        x.next(1);
        throwing(ARGUMENT, () -> x.start(1, 5, 1, 0));
        throwing(ARGUMENT, () -> x.start(1, 1, 10, 0));
        throwing(ARGUMENT, () -> x.start(1, 1, 1, 1));
        is(x.walker(1, 0), 1);
        lists(x, 1, 1, 2, 3, 6);
    }

    static void promise29_refusedAWalkerWithoutAShareHasNone() {
        OrderlyNets x = ofKind("nodes 3");
        throwing(ARGUMENT, () -> x.start(2, 0, 1, 0));
        is(x.count(4), 0);
        throwing(STATE, () -> x.next(2));
    }

    static void promise29_noSuchWalkerAheadOfTheNumbers() {
        refused("nodes 3", INDEX, x -> x.start(3, 0, 0, 0));
        refused("nodes 3", INDEX, x -> x.start(-1, 1, 1, 1));
    }

    // ---- promise 30

    static void promise30_byNumbers() {
        OrderlyNets x = walking();
        lists(x, 1, 0, 1, 2, 3, 6);
        OrderlyNets y = ofKind("nodes 4");
        y.start(0, 3, 4, 2);
        lists(y, 0, 8, 9);
        y.start(0, 2, 2, 1);
        lists(y, 0, 10);
        y.start(0, 4, 9, 1);
        lists(y, 0, 1, 10);
    }

    static void promise30_noneAndNothingHappensIfAllAre() {
        OrderlyNets x = walking();
        lists(x, 1, 0, 1, 2, 3, 6);
        String before = seen(x);
        is(x.next(1), NONE);
        is(x.next(1), NONE);
        is(seen(x), before);
        is(x.walker(1, 0), 5);
        is(x.walker(1, 2), 6);
    }

    static void promise30_ofAShareWithoutNets() {
        OrderlyNets x = ofKind("nodes 3");
        x.start(0, 2, 9, 8);
        is(x.next(0), NONE);
        is(x.walker(0, 0), 0);
    }

    static void promise30_theOtherWalkersStayWhereTheyAre() {
        OrderlyNets x = walking();
        x.start(0, 1, 1, 0);
        x.next(1);
        x.next(1);
        is(x.walker(0, 0), 0);
        is(x.next(0), 0);
        is(x.walker(1, 0), 2);
    }

    static void promise30_itHasNoShare() {
        refused("nodes 3", STATE, x -> x.next(2));
        throwing(STATE, () -> new OrderlyNets().next(0));
    }

    static void promise30_noSuchWalker() {
        for (int walker : NO_WALKERS) {
            refused("nodes 3", INDEX, x -> x.next(walker));
        }
    }

    // ---- promise 31

    static void promise31_howManyItListedAreLeftAndTheLatest() {
        OrderlyNets x = walking();
        int[][] want = {{0, 5, NONE}, {1, 4, 0}, {2, 3, 1}, {3, 2, 2}, {4, 1, 3}, {5, 0, 6}};
        for (int[] state : want) {
            for (int what = 0; what < 3; what++) {
                is(x.walker(1, what), state[what]);
            }
            x.next(1);
        }
    }

    static void promise31_noLatestAheadOfTheFirst() {
        is(walking().walker(1, 2), NONE);
    }

    static void promise31_noLatestOfAShareWithoutNets() {
        OrderlyNets x = ofKind("nodes 3");
        x.start(0, 2, 9, 8);
        x.next(0);
        is(x.walker(0, 0), 0);
        is(x.walker(0, 1), 0);
        is(x.walker(0, 2), NONE);
    }

    static void promise31_noLatestIfItIsSetToNone() {
        OrderlyNets x = walking();
        x.next(1);
        x.resume(1, 0);
        is(x.walker(1, 2), NONE);
    }

    static void promise31_anotherWhat() {
        for (int what : new int[] {LEAST, -1, 3, MOST}) {
            refused("nodes 3", ELEMENT, x -> x.walker(0, what));
        }
    }

    static void promise31_itHasNoShare() {
        for (int what = 0; what < 3; what++) {
            int asked = what;
            refused("nodes 3", STATE, x -> x.walker(2, asked));
        }
    }

    static void promise31_noSuchWalker() {
        for (int walker : NO_WALKERS) {
            refused("nodes 3", INDEX, x -> x.walker(walker, 0));
        }
    }

    static void promise31_noSuchWalkerAheadOfAnotherWhat() {
        refused("nodes 3", INDEX, x -> x.walker(3, 3));
        refused("nodes 3", INDEX, x -> x.walker(-1, -1));
    }

    static void promise31_anotherWhatAheadOfNoShare() {
        refused("nodes 3", ELEMENT, x -> x.walker(2, 3));
        refused("nodes 3", ELEMENT, x -> x.walker(2, -1));
    }

    // ---- promise 32

    static void promise32_howManyItHadListed() {
        OrderlyNets x = walking();
        is(x.resume(1, 2), 0);
        is(x.resume(1, 2), 2);
        x.next(1);
        is(x.resume(1, 5), 3);
        is(x.resume(1, 0), 5);
        is(x.resume(1, 0), 0);
    }

    static void promise32_itGoesOnBehindN() {
        OrderlyNets x = walking();
        x.resume(1, 3);
        lists(x, 1, 3, 6);
        x.resume(1, 1);
        lists(x, 1, 1, 2, 3, 6);
    }

    static void promise32_behindNone() {
        OrderlyNets x = walking();
        x.next(1);
        x.next(1);
        x.resume(1, 0);
        is(x.walker(1, 0), 0);
        is(x.walker(1, 1), 5);
        lists(x, 1, 0, 1, 2, 3, 6);
    }

    static void promise32_behindAll() {
        OrderlyNets x = walking();
        x.resume(1, 5);
        is(x.walker(1, 0), 5);
        is(x.walker(1, 1), 0);
        is(x.next(1), NONE);
    }

    static void promise32_theLatestIsThatOfTheNetsItGoesOnBehind() {
        OrderlyNets x = walking();
        x.resume(1, 5);
        is(x.walker(1, 2), 6);
        x.resume(1, 1);
        is(x.walker(1, 2), 0);
    }

    static void promise32_noneOfAShareWithoutNets() {
        OrderlyNets x = ofKind("nodes 3");
        x.start(0, 2, 9, 8);
        is(x.resume(0, 0), 0);
        throwing(ARGUMENT, () -> x.resume(0, 1));
    }

    static void promise32_thereAreNotSoMany() {
        refused("nodes 3", ARGUMENT, x -> x.resume(1, 5));
        refused("nodes 3", ARGUMENT, x -> x.resume(1, MOST));
        OrderlyNets x = walking();
        throwing(ARGUMENT, () -> x.resume(1, 6));
        is(x.resume(1, 5), 0);
    }

    static void promise32_nIsBelow0() {
        refused("nodes 3", ARGUMENT, x -> x.resume(1, -1));
        refused("nodes 3", ARGUMENT, x -> x.resume(1, LEAST));
    }

    static void promise32_itHasNoShare() {
        refused("nodes 3", STATE, x -> x.resume(2, 0));
    }

    static void promise32_noSuchWalker() {
        for (int walker : NO_WALKERS) {
            refused("nodes 3", INDEX, x -> x.resume(walker, 0));
        }
    }

    static void promise32_noSuchWalkerAheadOfTheRest() {
        refused("nodes 3", INDEX, x -> x.resume(3, -1));
        refused("nodes 3", INDEX, x -> x.resume(-1, 99));
    }

    static void promise32_noShareAheadOfNotSoMany() {
        refused("nodes 3", STATE, x -> x.resume(2, -1));
        refused("nodes 3", STATE, x -> x.resume(2, 99));
    }
}
