/** What is told: its form, and its first order. */
final class Promise26To27Tests extends Checks {
    public static void main(String[] args) {
        runAll(Promise26To27Tests.class);
    }

    private static OrderlyNets tellingNet(String kind, String text) {
        OrderlyNets x = ofKind(kind);
        told(x, text);
        return x;
    }

    private static void ordered(String kind, String text, int... want) {
        OrderlyNets x = tellingNet(kind, text);
        for (int place = 0; place < want.length; place++) {
            is(x.order(place), want[place]);
        }
        throwing(INDEX, () -> x.order(want.length));
    }

    /** Nothing is told: a new object, or one whose kind alone was told. */
    private static OrderlyNets untold() {
        return ofKind("nodes 3");
    }

    // ---- promise 26

    static void promise26_nodes() {
        is(tellingNet("nodes 6", "net 1").form(0), 1);
        is(tellingNet("nodes 6", "net 6").form(0), 6);
    }

    static void promise26_form() {
        is(tellingNet("nodes 6", "net 6").form(1), 0);
        is(tellingNet("nodes 4", "net 4: 0 1, 1 2, 2 3").form(1), 21);
        is(tellingNet("nodes 2 dark", "net 2 dark 0").form(1), 2);
        is(tellingNet("nodes 5 dark", "net 5 dark 0 1 2 3 4: 0 1,0 2,0 3,0 4,1 2,1 3,1 4,2 3,2 4,3 4").form(1), 32767);
    }

    static void promise26_symmetries() {
        is(tellingNet("nodes 6", "net 6").form(2), 720);
        is(tellingNet("nodes 1", "net 1").form(2), 1);
        is(tellingNet("nodes 2 dark", "net 2 dark 0").form(2), 1);
        is(tellingNet("nodes 2 dark", "net 2 dark 0 1").form(2), 2);
    }

    static void promise26_edges() {
        is(tellingNet("nodes 6", "net 6").form(3), 0);
        is(tellingNet("nodes 6", "net 6: 0 1,0 2,0 3,0 4,0 5,1 2,1 3,1 4,1 5,2 3,2 4,2 5,3 4,3 5,4 5").form(3), 15);
        is(tellingNet("nodes 2 dark", "net 2 dark 0 1").form(3), 0);
    }

    static void promise26_anotherWhat() {
        for (int what : new int[] {LEAST, -1, 4, MOST}) {
            refused("nodes 3", ELEMENT, x -> x.form(what));
        }
    }

    static void promise26_nothingIsTold() {
        for (int what = 0; what < 4; what++) {
            int asked = what;
            throwing(STATE, () -> untold().form(asked));
            throwing(STATE, () -> new OrderlyNets().form(asked));
        }
    }

    static void promise26_anotherWhatAheadOfNothingTold() {
        for (int what : new int[] {LEAST, -1, 4, MOST}) {
            throwing(ELEMENT, () -> untold().form(what));
        }
    }

    static void promise26_aKindLeavesIt() {
        OrderlyNets x = tellingNet("nodes 4", "net 4: 0 1, 1 2, 2 3");
        kind(x, "nodes 1 dark");
        is(x.form(0), 4);
        is(x.form(1), 21);
        is(x.form(2), 2);
        is(x.form(3), 3);
        is(x.order(3), 1);
    }

    static void promise26_otherCallsLeaveIt() {
        OrderlyNets x = tellingNet("nodes 4", "net 3: 0 1");
        x.grown(3, 2, 7, false);
        x.net(4, 10, 2);
        x.twins(4);
        x.within(4, 10, 2, 1);
        is(x.form(0), 3);
        is(x.form(1), 1);
        is(x.form(2), 2);
        is(x.order(0), 2);
    }

    // ---- promise 27

    static void promise27_firstByTheNodeInTheFirstPlace() {
        ordered("nodes 3", "net 3", 0, 1, 2);
        ordered("nodes 2", "net 2: 1 0", 0, 1);
        ordered("nodes 4", "net 4: 0 1, 1 2, 2 3", 0, 3, 2, 1);
    }

    static void promise27_thenTheNextTheLesserFirst() {
        ordered("nodes 4", "net 4: 0 1, 0 2, 0 3", 1, 2, 3, 0);
        ordered("nodes 4", "net 4: 3 1, 3 0, 2 3", 0, 1, 2, 3);
        ordered("nodes 4", "net 4: 0 1, 2 3", 0, 2, 3, 1);
    }

    static void promise27_lightAheadOfDark() {
        ordered("nodes 2 dark", "net 2 dark 0", 1, 0);
        ordered("nodes 3 dark", "net 3 dark 0 1", 2, 0, 1);
        ordered("nodes 1 dark", "net 1 dark 0", 0);
    }

    static void promise27_ofOneNode() {
        ordered("nodes 1", "net 1", 0);
    }

    static void promise27_ofSixNodes() {
        ordered("nodes 6", "net 6: 0 1", 2, 3, 4, 5, 0, 1);
    }

    static void promise27_thereIsNoSuchPlace() {
        for (int place : new int[] {LEAST, -1, 1, 6, MOST}) {
            refused("nodes 3", INDEX, x -> x.order(place));
        }
        OrderlyNets x = tellingNet("nodes 6", "net 6");
        is(x.order(5), 5);
        throwing(INDEX, () -> x.order(6));
    }

    static void promise27_placesAreThoseOfWhatIsToldNotOfSize() {
        OrderlyNets x = tellingNet("nodes 6", "net 2");
        is(x.order(1), 1);
        throwing(INDEX, () -> x.order(2));
    }

    static void promise27_nothingIsTold() {
        throwing(STATE, () -> untold().order(0));
        throwing(STATE, () -> new OrderlyNets().order(0));
    }

    static void promise27_nothingToldAheadOfNoSuchPlace() {
        for (int place : new int[] {LEAST, -1, 3, MOST}) {
            throwing(STATE, () -> untold().order(place));
        }
    }

    static void promise27_ofANetThatDoesNotKeepTheRules() {
        ordered("nodes 3; forest", "net 3: 0 1, 1 2, 2 0", 0, 1, 2);
        ordered("nodes 2; most 0", "net 2: 0 1", 0, 1);
    }
}
