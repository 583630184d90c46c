/** What is told, and where the latest text was wrong. */
final class Promise05To06Tests extends Checks {
    public static void main(String[] args) {
        runAll(Promise05To06Tests.class);
    }

    /** A right text of a net: its number, and its form. */
    private static OrderlyNets rightNet(String kind, String text, int number, int form) {
        OrderlyNets x = ofKind(kind);
        tape(x, "net 99");
        throwing(ARGUMENT, () -> x.told());
        is(told(x, text), number);
        is(x.fault(), NONE);
        is(x.form(1), form);
        no(x.end(1));
        return x;
    }

    // ---- promise 5

    static void promise05_itsNumberOnItsLevel() {
        rightNet("nodes 4", "net 4", 0, 0);
        rightNet("nodes 4", "net 4: 0 1, 0 2, 0 3, 1 2, 1 3, 2 3", 10, 183);
        rightNet("nodes 4", "net 3: 0 1", 1, 1);
        rightNet("nodes 4", "net 2: 0 1", 1, 1);
        rightNet("nodes 4", "net 1", 0, 0);
    }

    static void promise05_noneIfItDoesNotKeepTheRules() {
        rightNet("nodes 3; free 3", "net 3: 0 1, 1 2, 2 0", NONE, 11);
        rightNet("nodes 3; most 1", "net 3: 0 1, 1 2", NONE, 3);
        rightNet("nodes 3 dark; unlike", "net 2 dark 0 1: 0 1", NONE, 7);
        rightNet("nodes 3; without 2", "net 2", NONE, 0);
    }

    static void promise05_itIsToldThoughItDoesNotKeepTheRules() {
        OrderlyNets x = rightNet("nodes 3; forest", "net 3: 0 1, 1 2, 2 0", NONE, 11);
        is(x.form(0), 3);
        is(x.form(2), 6);
        is(x.form(3), 3);
        is(x.order(0), 0);
    }

    static void promise05_endsDoNotMatter() {
        rightNet("nodes 3; end joined; end least 2; end edges 3 to 3", "net 3", 0, 0);
    }

    static void promise05_1ToSizeNodes() {
        rightNet("nodes 3", "net 1", 0, 0);
        rightNet("nodes 3", "net 3", 0, 0);
        wrongNet("nodes 3", "net |0");
        wrongNet("nodes 3", "net |4");
        wrongNet("nodes 1", "net |2");
        rightNet("nodes 6", "net 6", 0, 0);
        wrongNet("nodes 6", "net |7");
        wrongNet("nodes 3", "net |003");
        rightNet("nodes 3", "net 03", 0, 0);
    }

    static void promise05_sizeOfTheKindThatIsToldNow() {
        OrderlyNets x = ofKind("nodes 5");
        kind(x, "nodes 2");
        tape(x, "net 3");
        throwing(ARGUMENT, () -> x.told());
        is(x.fault(), 4);
        kind(x, "nodes 3");
        is(told(x, "net 3"), 0);
    }

    static void promise05_darkWhereNodesMayBe() {
        rightNet("nodes 2 dark", "net 2 dark 0", 2, 2);
        wrongNet("nodes 2", "net 2 |dark 0");
        rightNet("nodes 2 dark", "net 2", 0, 0);
    }

    static void promise05_darkEachOnce() {
        wrongNet("nodes 3 dark", "net 3 dark 0 |0");
        wrongNet("nodes 3 dark", "net 3 dark 2 1 |2: 0 1");
        wrongNet("nodes 3 dark", "net 3 dark 0 1 2 |1");
    }

    static void promise05_allMayBeDark() {
        rightNet("nodes 3 dark", "net 3 dark 2 0 1", 16, 52);
        rightNet("nodes 5 dark", "net 5 dark 4 3 2 1 0", 510, 0b1_10_100_1000_10000);
        rightNet("nodes 1 dark", "net 1 dark 0", 1, 1);
    }

    static void promise05_behindDarkANodeMustCome() {
        wrongNet("nodes 3 dark", "net 3 dark|");
        wrongNet("nodes 3 dark", "net 3 dark |: 0 1");
        wrongNet("nodes 3 dark", "net 3 dark |dark 0");
    }

    static void promise05_darkNodesThatAreNone() {
        wrongNet("nodes 3 dark", "net 3 dark |3");
        wrongNet("nodes 3 dark", "net 2 dark |2");
        wrongNet("nodes 3 dark", "net 3 dark 0 1 2 |3");
        wrongNet("nodes 3 dark", "net 3 dark 0 |001");
        wrongNet("nodes 3 dark", "net 3 dark 0 |, 1");
        wrongNet("nodes 3 dark", "net 3 dark 0 |dark 1");
    }

    static void promise05_edgesThatAreNone() {
        wrongNet("nodes 3", "net 3: |3 0");
        wrongNet("nodes 3", "net 3: 0 |3");
        wrongNet("nodes 3", "net 2: 0 |2");
        wrongNet("nodes 3", "net 3: 0 1, |9 1");
        wrongNet("nodes 3", "net 1: |1 0");
    }

    static void promise05_likeNodesAreWrongAtTheSecond() {
        wrongNet("nodes 3", "net 3: 1 |1");
        wrongNet("nodes 3", "net 3: 0 1, 2 |2");
        wrongNet("nodes 3", "net 1: 0 |0");
    }

    static void promise05_aPairToldAlreadyIsWrongAtTheSecond() {
        wrongNet("nodes 3", "net 3: 0 1, 0 |1");
        wrongNet("nodes 3", "net 3: 0 1, 1 |0");
        wrongNet("nodes 3", "net 3: 0 1, 0 2, 1 2, 0 |2");
        wrongNet("nodes 3", "net 2: 0 1, 0 |1");
    }

    static void promise05_allEdgesMayBe() {
        rightNet("nodes 6", "net 6: 5 4,5 3,5 2,5 1,5 0,4 3,4 2,4 1,4 0,3 2,3 1,3 0,2 1,2 0,1 0", 155,
                0b0_01_011_0111_01111_011111);
    }

    static void promise05_noEdgeBehindAll() {
        String all = "net 6: 5 4,5 3,5 2,5 1,5 0,4 3,4 2,4 1,4 0,3 2,3 1,3 0,2 1,2 0,1 0";
        wrongNet("nodes 6", all + ", 0 |1");
        wrongNet("nodes 6", all + ", 3 |3");
        wrongNet("nodes 6", all + ", |6 1");
        wrongNet("nodes 6", all + ",|");
        wrongNet("nodes 6", all + " |5");
    }

    static void promise05_moreMustCome() {
        wrongNet("nodes 3", "|");
        wrongNet("nodes 3", "   |");
        wrongNet("nodes 3", "net|");
        wrongNet("nodes 3", "net  |");
        wrongNet("nodes 3", "net 3:|");
        wrongNet("nodes 3", "net 3: 0|");
        wrongNet("nodes 3", "net 3: 0 1,|");
        wrongNet("nodes 3", "net 3: 0 1, 2 |");
    }

    static void promise05_whatCannotStandThere() {
        wrongNet("nodes 3", "|nodes 3");
        wrongNet("nodes 3", "|nett 3");
        wrongNet("nodes 3", "|3");
        wrongNet("nodes 3", "net |:");
        wrongNet("nodes 3", "net 3 |0 1");
        wrongNet("nodes 3", "net 3 |;");
        wrongNet("nodes 3", "net 3 |, 0 1");
        wrongNet("nodes 3", "net 3 |4");
        wrongNet("nodes 3", "net 3: |, 0 1");
        wrongNet("nodes 3", "net 3: 0 1 |2");
        wrongNet("nodes 3", "net 3: 0 1 |: 0 2");
        wrongNet("nodes 3", "net 3: 0 1 |;");
        wrongNet("nodes 3", "net 3: 0 |, 1");
        wrongNet("nodes 3", "net 3: 0 1 |x");
        wrongNet("nodes 3 dark", "net 3: 0 1 |dark 0");
        wrongNet("nodes 3 dark", "net 3 |darker 0");
        wrongNet("nodes 3 dark", "net 3 |x");
    }

    static void promise05_blanksBetweenAllAheadAndBehind() {
        rightNet("nodes 3 dark", "  net  3  dark  0  1  :  0  1  ,  1  2  ",
                ofDark("net 3 dark 0 1: 0 1, 1 2"), formOfDark("net 3 dark 0 1: 0 1, 1 2"));
        rightNet("nodes 3 dark", "net3dark0:1 2,0 1", ofDark("net 3 dark 0: 1 2, 0 1"),
                formOfDark("net 3 dark 0: 0 1, 1 2"));
        wrongNet("nodes 3", "net 3: 01|");
    }

    private static int ofDark(String text) {
        return told(ofKind("nodes 3 dark"), text);
    }

    private static int formOfDark(String text) {
        OrderlyNets x = ofKind("nodes 3 dark");
        told(x, text);
        return x.form(1);
    }

    static void promise05_whatWasToldBeforeStaysIfTheTextIsWrong() {
        OrderlyNets x = ofKind("nodes 3 dark");
        told(x, "net 3 dark 1: 0 1");
        int form = x.form(1);
        for (String wrong : new String[] {"", "net", "net 2 dark 0: 0 1,", "net 3 dark 0 1 2: 0 1 2", "nodes 1"}) {
            tape(x, wrong);
            throwing(ARGUMENT, () -> x.told());
            is(x.form(0), 3);
            is(x.form(1), form);
            is(x.order(2), 1);
        }
    }

    static void promise05_nothingStaysToldIfTheFirstTextIsWrong() {
        OrderlyNets x = ofKind("nodes 3");
        tape(x, "net 2: 0 1,");
        throwing(ARGUMENT, () -> x.told());
        throwing(STATE, () -> x.form(0));
        throwing(STATE, () -> x.order(0));
    }

    static void promise05_theLatestIsTold() {
        OrderlyNets x = ofKind("nodes 3");
        told(x, "net 3: 0 1");
        told(x, "net 2");
        is(x.form(0), 2);
        is(x.form(1), 0);
        throwing(INDEX, () -> x.order(2));
    }

    static void promise05_theTapeIsUsedUp() {
        OrderlyNets x = ofKind("nodes 3");
        tape(x, "net 3");
        x.told();
        no(x.end(1));
        throwing(ARGUMENT, () -> x.told());
        is(x.fault(), 0);
    }

    static void promise05_theTapeIsUsedUpByAWrongTextToo() {
        OrderlyNets x = ofKind("nodes 3");
        tape(x, "net 3 x");
        throwing(ARGUMENT, () -> x.told());
        no(x.end(1));
    }

    static void promise05_itChangesNoKindAndNoWalker() {
        OrderlyNets x = ofKind("nodes 3; even; end joined");
        x.start(1, 1, 1, 0);
        x.next(1);
        told(x, "net 2");
        is(x.count(0), 3);
        is(x.count(2), 1);
        is(x.count(3), 1);
        is(x.count(4), 2);
        is(x.walker(1, 0), 1);
    }

    // ---- promise 6

    static void promise06_noneAheadOfAny() {
        OrderlyNets x = new OrderlyNets();
        is(x.fault(), NONE);
        x.feed(0, 0, 0, 0, 0);
        x.end(7);
        is(x.fault(), NONE);
    }

    static void promise06_noneWithoutOne() {
        OrderlyNets x = new OrderlyNets();
        tape(x, "nodes 9");
        throwing(ARGUMENT, () -> x.kind());
        is(x.fault(), 6);
        kind(x, "nodes 3");
        is(x.fault(), NONE);
        tape(x, "net 9");
        throwing(ARGUMENT, () -> x.told());
        is(x.fault(), 4);
        told(x, "net 3");
        is(x.fault(), NONE);
    }

    static void promise06_noneOfANetThatDoesNotKeepTheRules() {
        OrderlyNets x = ofKind("nodes 3; most 0");
        is(told(x, "net 2: 0 1"), NONE);
        is(x.fault(), NONE);
    }

    static void promise06_ofTheLatestText() {
        OrderlyNets x = new OrderlyNets();
        tape(x, "nodes 9");
        throwing(ARGUMENT, () -> x.kind());
        tape(x, "nodes 3 x");
        throwing(ARGUMENT, () -> x.kind());
        is(x.fault(), 8);
        tape(x, "nodes");
        throwing(ARGUMENT, () -> x.told());
        is(x.fault(), 0);
    }

    static void promise06_ofAnEmptyTextItsLength() {
        OrderlyNets x = new OrderlyNets();
        throwing(ARGUMENT, () -> x.kind());
        is(x.fault(), 0);
        OrderlyNets y = new OrderlyNets();
        throwing(ARGUMENT, () -> y.told());
        is(y.fault(), 0);
    }

    static void promise06_ofATextOf400BytesItsLength() {
        OrderlyNets x = new OrderlyNets();
        tape(x, " ".repeat(400));
        throwing(ARGUMENT, () -> x.kind());
        is(x.fault(), 400);
        tape(x, " ".repeat(396) + "net ");
        throwing(ARGUMENT, () -> x.told());
        is(x.fault(), 400);
    }

    static void promise06_theLastOf400Bytes() {
        OrderlyNets x = new OrderlyNets();
        tape(x, "nodes 4" + " ".repeat(392) + "x");
        throwing(ARGUMENT, () -> x.kind());
        is(x.fault(), 399);
        is(kind(x, " ".repeat(393) + "nodes 4"), 11);
    }

    static void promise06_bytesBehindTheEndAreNotRead() {
        OrderlyNets x = new OrderlyNets();
        tape(x, "nodes 33");
        x.end(7);
        is(x.kind(), 4);
        tape(x, "nodes 33");
        x.end(6);
        throwing(ARGUMENT, () -> x.kind());
        is(x.fault(), 6);
    }

    static void promise06_askedAgainItIsTheSame() {
        OrderlyNets x = new OrderlyNets();
        tape(x, "nodes 9");
        throwing(ARGUMENT, () -> x.kind());
        is(x.fault(), 6);
        is(x.fault(), 6);
    }

    static void promise06_otherRefusedCallsLeaveIt() {
        OrderlyNets x = new OrderlyNets();
        tape(x, "nodes 9");
        throwing(ARGUMENT, () -> x.kind());
        throwing(INDEX, () -> x.level(0));
        throwing(STATE, () -> x.form(0));
        throwing(ARGUMENT, () -> x.share(0, 0, 0));
        x.feed(1, 2, 3, 4, 5);
        x.end(0);
        x.image();
        x.back();
        is(x.fault(), 6);
    }
}
