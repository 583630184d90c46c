/** Texts that are written, the image, and what is counted. */
final class Promise33To37Tests extends Checks {
    private static final String EMPTY_LEVELS = "nodes 3; without 2; without 2: 0 1";

    public static void main(String[] args) {
        runAll(Promise33To37Tests.class);
    }

    private static void writes(OrderlyNets x, int n, int k, String want) {
        is(x.text(n, k), want.length());
        is(written(x), want);
        is(x.count(5), want.length());
    }

    // ---- promise 33

    static void promise33_withoutEdges() {
        writes(ofKind("nodes 1"), 1, 0, "net 1");
        writes(ofKind("nodes 6"), 6, 0, "net 6");
    }

    static void promise33_oneEdge() {
        writes(ofKind("nodes 2"), 2, 1, "net 2 : 0 1");
    }

    static void promise33_aCommaBehindEachButTheLast() {
        writes(ofKind("nodes 3"), 3, 2, "net 3 : 0 2, 1 2");
        writes(ofKind("nodes 3"), 3, 3, "net 3 : 0 1, 0 2, 1 2");
    }

    static void promise33_byTheLesserNodeThenTheOther() {
        writes(ofKind("nodes 4"), 4, 6, "net 4 : 0 3, 1 2, 2 3");
        writes(ofKind("nodes 4"), 4, 8, "net 4 : 0 2, 0 3, 1 2, 1 3");
    }

    static void promise33_allEdges() {
        writes(ofKind("nodes 6"), 6, 155,
                "net 6 : 0 1, 0 2, 0 3, 0 4, 0 5, 1 2, 1 3, 1 4, 1 5, 2 3, 2 4, 2 5, 3 4, 3 5, 4 5");
    }

    static void promise33_ifSomeAreDark() {
        OrderlyNets x = ofKind("nodes 3 dark");
        writes(x, 1, 1, "net 1 dark 0");
        writes(x, 1, 0, "net 1");
        writes(x, 2, 2, "net 2 dark 1");
        writes(x, 3, 16, "net 3 dark 0 1 2");
    }

    static void promise33_darkNodesAndEdges() {
        OrderlyNets x = ofKind("nodes 5 dark");
        writes(x, 2, 3, "net 2 dark 1 : 0 1");
        writes(x, 5, 543, "net 5 dark 0 1 2 3 4 : 0 1, 0 2, 0 3, 0 4, 1 2, 1 3, 1 4, 2 3, 2 4, 3 4");
    }

    static void promise33_whatIsWrittenIsRead() {
        OrderlyNets x = ofKind("nodes 4 dark");
        for (int k = 0; k < 90; k += 13) {
            OrderlyNets y = ofKind("nodes 4 dark");
            y.text(4, k);
            is(told(x, written(y)), k);
            is(x.form(1), y.net(4, k, 0));
        }
    }

    static void promise33_noSuchNet() {
        refused("nodes 3", INDEX, x -> x.text(3, 4));
        refused("nodes 3", INDEX, x -> x.text(3, -1));
        refused("nodes 3", INDEX, x -> x.text(0, 0));
        refused("nodes 3", INDEX, x -> x.text(4, 0));
        refused("nodes 3", INDEX, x -> x.text(LEAST, MOST));
        refused(EMPTY_LEVELS, INDEX, x -> x.text(2, 0));
    }

    // ---- promise 34

    static void promise34_theKthByte() {
        OrderlyNets x = ofKind("nodes 2");
        x.text(2, 1);
        String want = "net 2 : 0 1";
        for (int k = 0; k < want.length(); k++) {
            is(x.octet(k), want.charAt(k));
        }
    }

    static void promise34_noneBehindTheLast() {
        OrderlyNets x = ofKind("nodes 2");
        x.text(2, 1);
        is(x.octet(10), '1');
        is(x.octet(11), NONE);
        is(x.octet(MOST), NONE);
    }

    static void promise34_noneBelow0() {
        OrderlyNets x = ofKind("nodes 2");
        x.text(2, 1);
        is(x.octet(-1), NONE);
        is(x.octet(LEAST), NONE);
    }

    static void promise34_noneBeforeAnyIsWritten() {
        OrderlyNets x = ofKind("nodes 2");
        is(x.octet(0), NONE);
        is(x.octet(-1), NONE);
    }

    static void promise34_ofTheLatestTextAlone() {
        OrderlyNets x = ofKind("nodes 2");
        x.text(2, 1);
        x.text(1, 0);
        is(x.octet(4), '1');
        is(x.octet(5), NONE);
        is(x.octet(10), NONE);
    }

    static void promise34_aKindLeavesWhatIsWritten() {
        OrderlyNets x = ofKind("nodes 2");
        x.text(2, 1);
        kind(x, "nodes 1 dark");
        is(written(x), "net 2 : 0 1");
    }

    // ---- promise 35

    static void promise35_itIsKept() {
        OrderlyNets x = ofKind("nodes 3; even; end joined");
        x.image();
        kind(x, "nodes 5 dark");
        yes(x.back());
        is(x.count(0), 3);
        is(x.count(2), 1);
        is(x.count(3), 1);
        is(x.level(3), 3);
    }

    static void promise35_itIsOne() {
        OrderlyNets x = ofKind("nodes 3");
        x.image();
        kind(x, "nodes 4");
        x.image();
        kind(x, "nodes 5");
        yes(x.back());
        is(x.count(0), 4);
        yes(x.back());
        is(x.count(0), 4);
    }

    static void promise35_ofANewObject() {
        OrderlyNets x = new OrderlyNets();
        x.image();
        kind(x, "nodes 6");
        x.start(0, 1, 1, 0);
        yes(x.back());
        is(x.count(0), 1);
        is(x.count(4), 0);
        is(x.level(1), 1);
    }

    static void promise35_whatComesBehindItDoesNotChangeIt() {
        OrderlyNets x = ofKind("nodes 3");
        x.start(0, 1, 1, 0);
        x.image();
        x.next(0);
        x.next(0);
        x.start(1, 2, 1, 0);
        yes(x.back());
        is(x.walker(0, 0), 0);
        is(x.count(4), 1);
    }

    // ---- promise 36

    static void promise36_falseAndNothingHappensIfNoneWasKept() {
        OrderlyNets x = ofKind("nodes 3; even");
        x.start(0, 1, 1, 0);
        x.next(0);
        String before = seen(x);
        no(x.back());
        is(seen(x), before);
        no(x.back());
    }

    static void promise36_theKind() {
        OrderlyNets x = ofKind("nodes 4 dark; unlike; most 2; end edges 1 to 3; end least 1; end joined");
        String before = seen(x);
        x.image();
        kind(x, "nodes 6; free 3; end joined");
        yes(x.back());
        is(seen(x), before);
        is(x.cycles(5, NONE), 544);
        is(x.grown(3, 0, 7, true) == NONE ? 1 : 0, 1);
    }

    static void promise36_patternsToo() {
        OrderlyNets x = ofKind("nodes 3; without 2; without 3: 0 1");
        x.image();
        kind(x, "nodes 3; without 2: 0 1");
        yes(x.back());
        is(x.level(3), 1);
        is(x.net(3, 0, 1), 3);
    }

    static void promise36_theWalkers() {
        OrderlyNets x = ofKind("nodes 4");
        x.start(0, 3, 2, 1);
        x.next(0);
        x.next(0);
        x.start(2, 4, 9, 1);
        x.image();
        x.next(0);
        x.resume(2, 2);
        x.start(1, 1, 1, 0);
        x.start(0, 1, 1, 0);
        yes(x.back());
        is(x.count(4), 5);
        is(x.walker(0, 0), 2);
        is(x.walker(0, 1), 3);
        is(x.walker(0, 2), 5);
        is(x.next(0), 6);
        is(x.walker(2, 0), 0);
        is(x.next(2), 1);
        throwing(STATE, () -> x.next(1));
    }

    static void promise36_walkersThatAKindTookAway() {
        OrderlyNets x = ofKind("nodes 3");
        x.start(1, 2, 2, 0);
        x.next(1);
        x.image();
        kind(x, "nodes 3");
        is(x.count(4), 0);
        yes(x.back());
        is(x.count(4), 2);
        is(x.next(1), 1);
    }

    static void promise36_againAndAgain() {
        OrderlyNets x = ofKind("nodes 3");
        x.start(1, 1, 1, 0);
        x.image();
        for (int times = 0; times < 3; times++) {
            x.next(1);
            x.next(1);
            kind(x, "nodes 2");
            yes(x.back());
            is(x.walker(1, 0), 0);
            is(x.count(0), 3);
        }
    }

    static void promise36_butForTheTape() {
        OrderlyNets x = ofKind("nodes 3");
        tape(x, "nodes 5");
        x.image();
        x.end(0);
        tape(x, "nodes 4; even");
        yes(x.back());
        no(x.end(14));
        yes(x.end(13));
        is(x.kind(), 7);
    }

    static void promise36_butForFault() {
        OrderlyNets x = ofKind("nodes 3");
        x.image();
        tape(x, "nodes 9");
        throwing(ARGUMENT, () -> x.kind());
        yes(x.back());
        is(x.fault(), 6);
        OrderlyNets y = new OrderlyNets();
        tape(y, "nodes 9");
        throwing(ARGUMENT, () -> y.kind());
        y.image();
        kind(y, "nodes 3");
        yes(y.back());
        is(y.fault(), NONE);
    }

    static void promise36_butForWhatIsTold() {
        OrderlyNets x = ofKind("nodes 3");
        told(x, "net 2: 0 1");
        x.image();
        told(x, "net 3: 0 1");
        yes(x.back());
        is(x.form(0), 3);
        is(x.order(0), 2);
        OrderlyNets y = ofKind("nodes 3");
        y.image();
        told(y, "net 2");
        yes(y.back());
        is(y.form(0), 2);
    }

    static void promise36_butForWhatIsWritten() {
        OrderlyNets x = ofKind("nodes 3");
        x.text(3, 3);
        x.image();
        x.text(2, 1);
        yes(x.back());
        is(written(x), "net 2 : 0 1");
    }

    static void promise36_butForTheImageItself() {
        OrderlyNets x = new OrderlyNets();
        x.image();
        kind(x, "nodes 2");
        x.image();
        yes(x.back());
        is(x.count(0), 2);
        kind(x, "nodes 3");
        yes(x.back());
        is(x.count(0), 2);
    }

    // ---- promise 37

    static void promise37_size() {
        is(new OrderlyNets().count(0), 1);
        is(ofKind("nodes 6").count(0), 6);
    }

    static void promise37_darkNodes() {
        is(ofKind("nodes 5").count(1), 0);
        is(ofKind("nodes 5 dark").count(1), 1);
    }

    static void promise37_linesOfRules() {
        is(ofKind("nodes 3; end joined; end least 1").count(2), 0);
        is(ofKind("nodes 3; free 3; free 3; without 3; most 2; even; forest").count(2), 6);
        is(ofKind("nodes 3 dark; unlike; without 4; without 4: 0 1").count(2), 3);
    }

    static void promise37_linesOfEnds() {
        is(ofKind("nodes 3; free 3").count(3), 0);
        is(ofKind("nodes 3; end joined; free 3; end least 0; end edges 0 to 15").count(3), 3);
    }

    static void promise37_walkersWithAShareAsBits() {
        OrderlyNets x = ofKind("nodes 3");
        x.start(2, 1, 1, 0);
        is(x.count(4), 4);
        x.start(0, 1, 1, 0);
        is(x.count(4), 5);
        x.start(1, 1, 1, 0);
        is(x.count(4), 7);
    }

    static void promise37_bytesWritten() {
        OrderlyNets x = ofKind("nodes 6");
        is(x.count(5), 0);
        x.text(6, 155);
        is(x.count(5), 81);
        x.text(1, 0);
        is(x.count(5), 5);
    }

    static void promise37_noneForAnotherWhat() {
        OrderlyNets x = busy("nodes 3");
        for (int what : new int[] {LEAST, -1, 6, 7, MOST}) {
            is(x.count(what), NONE);
        }
    }
}
