/** A new object and the tape: each sentence that names an edge, by itself. */
final class Promise01To03Tests extends Checks {
    public static void main(String[] args) {
        runAll(Promise01To03Tests.class);
    }

    private static final int[] WALKERS = {0, 1, 2};

    /** Twenty blanks, but for one byte. */
    private static OrderlyNets blanksBut(int at, int octet) {
        OrderlyNets x = new OrderlyNets();
        StringBuilder text = new StringBuilder(" ".repeat(20));
        text.setCharAt(at, (char) octet);
        tape(x, text.toString());
        return x;
    }

    private static OrderlyNets fed(int times) {
        OrderlyNets x = new OrderlyNets();
        for (int i = 0; i < times; i++) {
            x.feed(0, 0, 0, 0, 0);
        }
        return x;
    }

    // ---- promise 1

    static void promise01_noneIsBelowZero() {
        is(OrderlyNets.NONE, -1);
    }

    static void promise01_sizeIsOne() {
        OrderlyNets x = new OrderlyNets();
        is(x.count(0), 1);
        is(x.level(1), 1);
        throwing(INDEX, () -> x.level(2));
    }

    static void promise01_noDarkNodes() {
        OrderlyNets x = new OrderlyNets();
        is(x.count(1), 0);
        is(x.net(1, 0, 10), 0);
        is(x.cycles(6, NONE), 156);
    }

    static void promise01_noRules() {
        is(new OrderlyNets().count(2), 0);
        is(new OrderlyNets().named(1), 1);
    }

    static void promise01_noEnds() {
        OrderlyNets x = new OrderlyNets();
        is(x.count(3), 0);
        is(x.full(NONE), 1);
        is(x.net(1, 0, 11), 1);
    }

    static void promise01_noFault() {
        is(new OrderlyNets().fault(), NONE);
    }

    static void promise01_noWalkerHasAShare() {
        OrderlyNets x = new OrderlyNets();
        is(x.count(4), 0);
        for (int walker : WALKERS) {
            throwing(STATE, () -> x.next(walker));
            throwing(STATE, () -> x.walker(walker, 0));
            throwing(STATE, () -> x.resume(walker, 0));
        }
    }

    static void promise01_nothingIsTold() {
        OrderlyNets x = new OrderlyNets();
        throwing(STATE, () -> x.form(0));
        throwing(STATE, () -> x.order(0));
    }

    static void promise01_nothingIsWritten() {
        OrderlyNets x = new OrderlyNets();
        is(x.count(5), 0);
        is(x.octet(0), NONE);
    }

    static void promise01_noImageIsKept() {
        no(new OrderlyNets().back());
    }

    static void promise01_theTapeIsEmpty() {
        OrderlyNets x = new OrderlyNets();
        no(x.end(1));
        yes(x.end(0));
        is(x.feed(0, 0, 0, 0, 0), 20);
    }

    static void promise01_objectsHaveNothingInCommon() {
        OrderlyNets x = new OrderlyNets();
        OrderlyNets y = busy("nodes 4; even; end joined");
        is(x.count(0), 1);
        is(x.count(4), 0);
        is(x.fault(), NONE);
        no(x.back());
        no(x.end(1));
        is(y.count(0), 4);
    }

    /** An object is used for 512 calls: the last of them is still answered. */
    static void promise01_the512thCallIsAnswered() {
        OrderlyNets x = new OrderlyNets();
        x.feed(0x6e6f6465, 0x73203620, 0, 0, 0);
        x.end(7);
        x.kind();
        for (int call = 4; call <= 512; call++) {
            is(x.net(6, 155, 2), 720);
        }
    }

    // ---- promise 2

    static void promise02_eachByteStandsInItsPlace() {
        for (int at = 0; at < 20; at++) {
            OrderlyNets x = blanksBut(at, 'x');
            throwing(ARGUMENT, () -> x.kind());
            is(x.fault(), at);
        }
    }

    static void promise02_theHighestByteComesFirst() {
        OrderlyNets x = new OrderlyNets();
        x.feed(0x6e6f6465, 0x7320343b, 0x66726565, 0x20333b65, 0x76656e20);
        is(x.kind(), 7);
        is(x.count(2), 2);
    }

    static void promise02_bytesAbove127AreBytes() {
        for (int octet : new int[] {128, 176, 255}) {
            OrderlyNets x = blanksBut(9, octet);
            throwing(ARGUMENT, () -> x.kind());
            is(x.fault(), 9);
        }
        OrderlyNets y = new OrderlyNets();
        is(y.feed(LEAST, -1, MOST, 0, -2), 20);
        throwing(ARGUMENT, () -> y.kind());
        is(y.fault(), 0);
    }

    static void promise02_aByteIsNotItsLowSevenBits() {
        OrderlyNets x = new OrderlyNets();
        tape(x, "nodes" + (char) 160 + "3");
        throwing(ARGUMENT, () -> x.kind());
        is(x.fault(), 5);
    }

    static void promise02_itTellsHowManyItHas() {
        OrderlyNets x = new OrderlyNets();
        for (int times = 1; times <= 20; times++) {
            is(x.feed(times, 0, 0, 0, 0), 20 * times);
        }
    }

    static void promise02_fourHundredJustGo() {
        is(fed(19).feed(0, 0, 0, 0, 0), 400);
    }

    static void promise02_noneComeBeyond400() {
        OrderlyNets x = fed(20);
        is(x.feed(1, 2, 3, 4, 5), NONE);
        no(x.end(401));
        yes(x.end(400));
        is(x.feed(1, 2, 3, 4, 5), NONE);
    }

    static void promise02_whatStandsStaysWhenNoneCome() {
        OrderlyNets x = new OrderlyNets();
        tape(x, "nodes 4" + " ".repeat(393));
        is(x.feed(-1, -1, -1, -1, -1), NONE);
        is(x.kind(), 11);
    }

    static void promise02_behind380TwentyGo() {
        OrderlyNets x = fed(20);
        yes(x.end(380));
        is(x.feed(0, 0, 0, 0, 0), 400);
    }

    static void promise02_behind381NoneGo() {
        OrderlyNets x = fed(20);
        yes(x.end(381));
        is(x.feed(0, 0, 0, 0, 0), NONE);
        no(x.end(382));
        yes(x.end(381));
    }

    static void promise02_theyComeBehindWhatIsLeft() {
        OrderlyNets x = new OrderlyNets();
        x.feed(0x6e6f6465, 0x73203400, 0, 0, 0);
        x.end(7);
        is(x.feed(0x20202020, 0x20202020, 0x20202020, 0x20202020, 0x20202078), 27);
        throwing(ARGUMENT, () -> x.kind());
        is(x.fault(), 26);
    }

    static void promise02_behindATextTheTapeBeginsAnew() {
        OrderlyNets x = ofKind("nodes 3");
        is(x.feed(0, 0, 0, 0, 0), 20);
        throwing(ARGUMENT, () -> x.kind());
        is(x.feed(0, 0, 0, 0, 0), 20);
    }

    // ---- promise 3

    static void promise03_theFirstNAlone() {
        OrderlyNets x = new OrderlyNets();
        tape(x, "nodes 4; free 3; even");
        yes(x.end(15));
        is(x.kind(), 7);
        is(x.count(2), 1);
    }

    static void promise03_asManyAsItHas() {
        OrderlyNets x = fed(2);
        yes(x.end(40));
        no(x.end(41));
        is(x.feed(0, 0, 0, 0, 0), 60);
    }

    static void promise03_noneAreLeft() {
        OrderlyNets x = fed(2);
        yes(x.end(0));
        no(x.end(1));
        yes(x.end(0));
    }

    static void promise03_fewerThanNAndNothingHappens() {
        for (int n : new int[] {21, 400, 401, MOST}) {
            OrderlyNets x = fed(1);
            no(x.end(n));
            is(x.feed(0, 0, 0, 0, 0), 40);
        }
    }

    static void promise03_belowZeroAndNothingHappens() {
        for (int n : new int[] {-1, -20, LEAST}) {
            OrderlyNets x = fed(1);
            no(x.end(n));
            is(x.feed(0, 0, 0, 0, 0), 40);
        }
    }

    static void promise03_ofAnEmptyTape() {
        yes(new OrderlyNets().end(0));
        no(new OrderlyNets().end(1));
        no(new OrderlyNets().end(-1));
    }

    static void promise03_whatIsCutOffIsGone() {
        OrderlyNets x = fed(1);
        x.end(5);
        no(x.end(6));
        no(x.end(20));
    }
}
