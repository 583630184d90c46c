/** The kind: what each rule and end means at its edges, and which texts of a kind are right or wrong. */
final class Promise04Tests extends Checks {
    private static final String TWELVE_LINES = ";free 3;free 3;free 3;free 3;free 3;free 3;free 3;free 3;free 3;free 3;free 3;free 3";

    public static void main(String[] args) {
        runAll(Promise04Tests.class);
    }

    private static void fullOf(String kind, int nets, int full) {
        is(rightKind(kind, nets).full(NONE), full);
    }

    // ---- what is told

    static void promise04_itTellsHowManyNetsAreOnLevelSize() {
        int[] light = {1, 2, 4, 11, 34, 156};
        int[] dark = {2, 6, 20, 90, 544};
        for (int n = 1; n <= 6; n++) {
            rightKind("nodes " + n, light[n - 1]);
        }
        for (int n = 1; n <= 5; n++) {
            rightKind("nodes " + n + " dark", dark[n - 1]);
        }
    }

    static void promise04_thereMayBeNone() {
        OrderlyNets x = rightKind("nodes 3; without 2; without 2: 0 1", 0);
        is(x.level(2), 0);
        is(x.level(1), 1);
        is(x.named(3), 0);
        is(x.rooted(3), 0);
        is(x.twins(3), 0);
        is(x.full(NONE), 0);
        is(x.full(0), NONE);
        is(x.share(1, 1, 0), 0);
    }

    static void promise04_theTapeIsUsedUp() {
        OrderlyNets x = new OrderlyNets();
        tape(x, "nodes 4");
        x.kind();
        no(x.end(1));
        throwing(ARGUMENT, () -> x.kind());
        is(x.fault(), 0);
    }

    static void promise04_theTapeIsUsedUpByAWrongTextToo() {
        OrderlyNets x = new OrderlyNets();
        tape(x, "nodes 4 x");
        throwing(ARGUMENT, () -> x.kind());
        no(x.end(1));
    }

    static void promise04_itStandsInPlaceOfTheOneBefore() {
        OrderlyNets x = ofKind("nodes 5 dark; most 1; free 3; even; forest; unlike; without 3; without 4;"
                + "end joined; end edges 3 to 4; end least 2");
        is(kind(x, "nodes 4"), 11);
        int[] counts = {4, 0, 0, 0};
        for (int what = 0; what < 4; what++) {
            is(x.count(what), counts[what]);
        }
        is(x.full(NONE), 11);
        is(kind(x, "nodes 3; without 2; without 2: 0 1"), 0);
        is(kind(x, "nodes 2"), 2);
        throwing(INDEX, () -> x.level(3));
    }

    static void promise04_theWordsOfTheOneBeforeMayStandAgain() {
        OrderlyNets x = ofKind("nodes 3; most 1; even; without 2; without 2; end joined");
        is(kind(x, "nodes 3; most 1; even; without 2; without 2; end joined"), 0);
        tape(x, "nodes 3; most 1; even; without 2; without 2; end foo");
        throwing(ARGUMENT, () -> x.kind());
        is(kind(x, "nodes 3; most 1; even; without 2; without 2; end joined"), 0);
    }

    static void promise04_noWalkerHasAShare() {
        OrderlyNets x = ofKind("nodes 3");
        for (int walker = 0; walker < 3; walker++) {
            x.start(walker, 1, 1, 0);
        }
        is(x.count(4), 7);
        kind(x, "nodes 3");
        is(x.count(4), 0);
        for (int walker = 0; walker < 3; walker++) {
            int asked = walker;
            throwing(STATE, () -> x.next(asked));
        }
    }

    static void promise04_ofAWrongTextNothingStays() {
        wrongKind("nodes 5 dark; most 3; unlike; free 3; end edges 1 to 2; end joined; without 3; without 4; |foo");
    }

    static void promise04_whatIsToldAndWrittenStays() {
        OrderlyNets x = busy("nodes 3");
        kind(x, "nodes 1 dark");
        is(x.form(0), 1);
        is(written(x), "net 1");
    }

    // ---- sizes and dark nodes

    static void promise04_sizes0And7AreOutOfBounds() {
        wrongKind("nodes |0");
        wrongKind("nodes |7");
        wrongKind("nodes |99");
    }

    static void promise04_size1() {
        rightKind("nodes 1", 1);
        rightKind("nodes 1 dark", 2);
    }

    static void promise04_behindSize6DarkCannotStand() {
        wrongKind("nodes 6 |dark");
        wrongKind("nodes 06 |dark; even");
    }

    static void promise04_behindSize5DarkCanStand() {
        is(rightKind("nodes 5 dark", 544).count(1), 1);
    }

    static void promise04_darkOnce() {
        wrongKind("nodes 3 dark |dark");
    }

    static void promise04_withoutDarkAllAreLight() {
        OrderlyNets x = rightKind("nodes 2", 2);
        is(x.count(1), 0);
        is(x.net(2, 1, 10), 0);
    }

    // ---- rules

    static void promise04_most0To5() {
        rightKind("nodes 3; most 0", 1);
        rightKind("nodes 6; most 5", 156);
        wrongKind("nodes 3; most |6");
    }

    static void promise04_mostIsTheMostThatMayBe() {
        rightKind("nodes 3; most 1", 2);
        rightKind("nodes 3; most 2", 4);
        rightKind("nodes 6; most 4", 122);
        rightKind("nodes 6; most 1", 4);
    }

    static void promise04_free3To6() {
        wrongKind("nodes 3; free |2");
        rightKind("nodes 3; free 3", 3);
        rightKind("nodes 6; free 6", 108);
        wrongKind("nodes 3; free |7");
    }

    static void promise04_ofFreeSeveralLinesMayBe() {
        is(rightKind("nodes 4; free 3; free 4; free 3", 6).count(2), 3);
    }

    static void promise04_freeOfMoreNodesThanThereAre() {
        rightKind("nodes 3; free 4", 4);
        rightKind("nodes 5; free 6", 34);
        rightKind("nodes 1; free 3", 1);
    }

    static void promise04_freeBansCirclesOfJustThatLength() {
        OrderlyNets x = rightKind("nodes 4; free 3", 7);
        is(told(x, "net 4: 0 1, 1 2, 2 3, 3 0"), 6);
        OrderlyNets y = rightKind("nodes 4; free 4", 8);
        is(told(y, "net 3: 0 1, 1 2, 2 0"), 3);
        is(told(y, "net 4: 0 1, 1 2, 2 3, 3 0"), NONE);
    }

    static void promise04_otherEdgesOfACircleDoNotMatter() {
        OrderlyNets x = ofKind("nodes 4; free 4");
        is(told(x, "net 4: 0 1, 1 2, 2 3, 3 0, 0 2"), NONE);
        is(told(x, "net 4: 0 1, 1 2, 2 3, 3 0, 0 2, 1 3"), NONE);
    }

    static void promise04_aCircleHas3NodesAtLeast() {
        OrderlyNets x = ofKind("nodes 2; forest; even; free 3");
        is(told(x, "net 2: 0 1"), 1);
    }

    static void promise04_evenBans3And5Alone() {
        rightKind("nodes 3; even", 3);
        rightKind("nodes 4; even", 7);
        rightKind("nodes 5; even", 13);
        rightKind("nodes 6; even", 35);
        OrderlyNets x = ofKind("nodes 6; even");
        is(told(x, "net 3: 0 1, 1 2, 2 0"), NONE);
        yes(told(x, "net 4: 0 1, 1 2, 2 3, 3 0") >= 0);
        is(told(x, "net 5: 0 1, 1 2, 2 3, 3 4, 4 0"), NONE);
        yes(told(x, "net 6: 0 1, 1 2, 2 3, 3 4, 4 5, 5 0") >= 0);
    }

    static void promise04_forestBansAll() {
        rightKind("nodes 3; forest", 3);
        rightKind("nodes 4; forest", 6);
        rightKind("nodes 5; forest", 10);
        rightKind("nodes 6; forest", 20);
        OrderlyNets x = ofKind("nodes 6; forest");
        is(told(x, "net 3: 0 1, 1 2, 2 0"), NONE);
        is(told(x, "net 4: 0 1, 1 2, 2 3, 3 0"), NONE);
        is(told(x, "net 5: 0 1, 1 2, 2 3, 3 4, 4 0"), NONE);
        is(told(x, "net 6: 0 1, 1 2, 2 3, 3 4, 4 5, 5 0"), NONE);
        yes(told(x, "net 6: 0 1, 1 2, 2 3, 3 4, 4 5") >= 0);
    }

    static void promise04_unlikeBansTwoDarkAndTwoLight() {
        OrderlyNets x = rightKind("nodes 2 dark; unlike", 4);
        is(told(x, "net 2: 0 1"), NONE);
        is(told(x, "net 2 dark 0 1: 0 1"), NONE);
        is(told(x, "net 2 dark 1: 0 1"), 2);
        is(told(x, "net 2 dark 0 1"), 3);
    }

    static void promise04_unlikeJustWhereNodesMayBeDark() {
        wrongKind("nodes 3; |unlike");
        rightKind("nodes 3 dark; unlike", 8);
    }

    static void promise04_without2To4() {
        wrongKind("nodes 3; without |1");
        rightKind("nodes 3; without 2", 1);
        rightKind("nodes 4; without 4", 10);
        wrongKind("nodes 3; without |5");
    }

    static void promise04_atMostTwoWithout() {
        rightKind("nodes 3; without 3; without 3: 0 1, 0 2, 1 2", 2);
        wrongKind("nodes 3; without 3; without 4; |without 2");
        wrongKind("nodes 3; without 3; most 2; without 4; even; |without");
    }

    static void promise04_withoutTheSameTwice() {
        is(rightKind("nodes 3; without 2; without 2", 1).count(2), 2);
    }

    static void promise04_withoutOfMoreNodesThanThereAre() {
        rightKind("nodes 3; without 4", 4);
        rightKind("nodes 1; without 2", 1);
    }

    static void promise04_withoutWithoutEdges() {
        rightKind("nodes 2; without 2", 1);
        is(ofKind("nodes 2; without 2").net(2, 0, 1), 1);
        rightKind("nodes 3; without 3", 3);
    }

    static void promise04_withoutAllEdges() {
        rightKind("nodes 4; without 4: 0 1, 0 2, 0 3, 1 2, 1 3, 2 3", 10);
        rightKind("nodes 3; without 3: 0 1, 1 2, 2 0", 3);
    }

    static void promise04_withoutMeansJoinedJustAsThatNet() {
        OrderlyNets x = rightKind("nodes 3; without 3: 0 1, 0 2", 3);
        is(told(x, "net 3: 0 1, 1 2, 2 0"), 2);
        is(told(x, "net 3: 0 1"), 1);
        is(told(x, "net 3: 2 1, 1 0"), NONE);
    }

    static void promise04_withoutLooksAtPartsByThemselves() {
        OrderlyNets x = ofKind("nodes 4; without 3: 0 1");
        is(told(x, "net 4: 0 1"), NONE);
        is(told(x, "net 4: 0 1, 2 3"), NONE);
        yes(told(x, "net 4: 0 1, 1 2, 2 3, 3 0") >= 0);
    }

    static void promise04_withoutLightAndDarkDoNotMatter() {
        OrderlyNets x = rightKind("nodes 2 dark; without 2: 0 1", 3);
        is(told(x, "net 2: 0 1"), NONE);
        is(told(x, "net 2 dark 0: 0 1"), NONE);
        is(told(x, "net 2 dark 0 1: 0 1"), NONE);
        rightKind("nodes 2 dark; without 2", 3);
    }

    static void promise04_withoutHoweverTheNodesStand() {
        rightKind("nodes 3; without 3: 1 0", 3);
        rightKind("nodes 3; without 3: 2 1", 3);
        rightKind("nodes 4; without 4: 3 1, 2 0, 0 3", 10);
    }

    // ---- ends

    static void promise04_endsLeaveTheLevels() {
        fullOf("nodes 4; end joined; end edges 9 to 9; end least 5", 11, 0);
    }

    static void promise04_endJoined() {
        fullOf("nodes 1; end joined", 1, 1);
        fullOf("nodes 2; end joined", 2, 1);
        fullOf("nodes 4; end joined", 11, 6);
        fullOf("nodes 6; end joined", 156, 112);
    }

    static void promise04_endEdges0To15() {
        fullOf("nodes 6; end edges 0 to 0", 156, 1);
        fullOf("nodes 6; end edges 15 to 15", 156, 1);
        fullOf("nodes 6; end edges 0 to 15", 156, 156);
        wrongKind("nodes 3; end edges |16 to 16");
        wrongKind("nodes 3; end edges 0 to |16");
    }

    static void promise04_endEdgesBothBoundsMayBe() {
        fullOf("nodes 4; end edges 3 to 4", 11, 5);
        fullOf("nodes 4; end edges 3 to 3", 11, 3);
    }

    static void promise04_endEdgesTheSecondNoLess() {
        rightKind("nodes 3; end edges 3 to 3", 4);
        wrongKind("nodes 3; end edges 3 to |2");
        wrongKind("nodes 3; end edges 15 to |14");
        wrongKind("nodes 3; end edges 1 to |0");
    }

    static void promise04_endLeast0To5() {
        fullOf("nodes 6; end least 0", 156, 156);
        fullOf("nodes 6; end least 5", 156, 1);
        wrongKind("nodes 3; end least |6");
    }

    static void promise04_endLeastIsTheLeastThatMayBe() {
        fullOf("nodes 3; end least 1", 4, 2);
        fullOf("nodes 3; end least 2", 4, 1);
        fullOf("nodes 3; end least 3", 4, 0);
        fullOf("nodes 1; end least 1", 1, 0);
    }

    // ---- lines

    static void promise04_fourteenLinesAtMost() {
        is(rightKind("nodes 3" + TWELVE_LINES + ";free 3;free 3", 3).count(2), 14);
        OrderlyNets x = rightKind("nodes 3" + TWELVE_LINES + ";end joined;end least 1", 3);
        is(x.count(2), 12);
        is(x.count(3), 2);
    }

    static void promise04_aLineTooManyIsWrongAtItsFirstWord() {
        wrongKind("nodes 3" + TWELVE_LINES + ";free 3;free 3;|free 3");
        wrongKind("nodes 3" + TWELVE_LINES + ";free 3;free 3 ;  |even");
        wrongKind("nodes 3" + TWELVE_LINES + ";end joined;end least 1;|end joined");
        wrongKind("nodes 3" + TWELVE_LINES + ";end joined;end least 1;|end edges 0 to 1");
        wrongKind("nodes 3" + TWELVE_LINES + ";without 2;without 3;|without 4");
        wrongKind("nodes 3" + TWELVE_LINES + ";free 3;free 3;|foo");
    }

    static void promise04_ofALineTooManyMoreMustCome() {
        wrongKind("nodes 3" + TWELVE_LINES + ";free 3;free 3;|");
        wrongKind("nodes 3" + TWELVE_LINES + ";free 3;free 3;  |");
    }

    static void promise04_mostOnce() {
        wrongKind("nodes 3; most 2; |most 2");
        wrongKind("nodes 3; most 2; |most");
        wrongKind("nodes 3; most 2; free 3; |most 9");
    }

    static void promise04_evenOnce() {
        wrongKind("nodes 3; even; |even");
    }

    static void promise04_forestOnce() {
        wrongKind("nodes 3; forest; even; |forest");
    }

    static void promise04_unlikeOnce() {
        wrongKind("nodes 3 dark; unlike; |unlike");
    }

    static void promise04_endJoinedOnceWrongAtItsSecondWord() {
        wrongKind("nodes 3; end joined; end |joined");
    }

    static void promise04_endEdgesOnceWrongAtItsSecondWord() {
        wrongKind("nodes 3; end edges 0 to 1; end |edges 0 to 1");
        wrongKind("nodes 3; end edges 0 to 1; end |edges 16");
    }

    static void promise04_endLeastOnceWrongAtItsSecondWord() {
        wrongKind("nodes 3; end least 1; end  |least 1");
    }

    static void promise04_oneEndLineOfEachSecondWord() {
        is(rightKind("nodes 3; end joined; end edges 0 to 3; end least 1", 4).count(3), 3);
    }

    static void promise04_allRulesTogether() {
        is(rightKind("nodes 3 dark; most 2; free 3; even; forest; unlike; without 4; without 4: 0 1", 8).count(2), 7);
    }

    static void promise04_linesInAnyOrder() {
        OrderlyNets x = rightKind("nodes 3; end least 1; free 3; end joined; most 2", 3);
        is(x.count(2), 2);
        is(x.count(3), 2);
        is(x.full(NONE), 1);
    }

    // ---- numbers, words, blanks

    static void promise04_numbersOf1To2Digits() {
        rightKind("nodes 03; most 02; free 03; without 04: 00 01; end edges 00 to 09", 3);
        wrongKind("nodes |003");
        wrongKind("nodes 3; most |002");
        wrongKind("nodes 3; free |0003");
        wrongKind("nodes 3; without |004");
        wrongKind("nodes 3; without 4: |000 1");
        wrongKind("nodes 3; without 4: 0 |001");
        wrongKind("nodes 3; end edges |000 to 1");
        wrongKind("nodes 3; end edges 0 to |001");
        wrongKind("nodes 3; end least |001");
        wrongKind("nodes |4294967299");
    }

    static void promise04_aNumberIsNone() {
        wrongKind("nodes |x");
        wrongKind("nodes |-1");
        wrongKind("nodes |+3");
        wrongKind("nodes 3; most |;");
    }

    static void promise04_wordsAsLongAsLettersGoOn() {
        wrongKind("|nodesx 3");
        wrongKind("|nodesa 3");
        wrongKind("|nodesz 3");
        wrongKind("nodes 3 |darkest");
        wrongKind("nodes 3; |evens");
        wrongKind("nodes 3; |endjoined");
        wrongKind("nodes 3; end |joinedx");
        wrongKind("nodes 3; end edges 0 |toto 1");
    }

    static void promise04_aWordEndsAtOtherSigns() {
        wrongKind("nodes|X 3");
        wrongKind("nodes 3; even|`");
        wrongKind("nodes 3; even|{");
        rightKind("nodes3dark;most2;free3;without4:0 1;end edges0to3", 16);
    }

    static void promise04_capitalsAreNoLetters() {
        wrongKind("|NODES 3");
        wrongKind("nodes 3 |Dark");
    }

    static void promise04_blanksMayBeBetweenAll() {
        rightKind("  nodes  3  dark  ;  most  2  ;  without  4  :  0  1  ,  1  2  ;  end  edges  0  to  3  ", 20);
    }

    static void promise04_blanksNeedNotBe() {
        rightKind("nodes3;without3:0 1,1 2;end edges3to3;free4", 3);
        wrongKind("nodes 3;without 3:01|");
    }

    static void promise04_blanksAheadAndBehind() {
        rightKind("   nodes 3", 4);
        rightKind("nodes 3   ", 4);
    }

    static void promise04_blanksWithinAThingPartIt() {
        wrongKind("|no des 3");
        wrongKind("nodes 1 |3");
        wrongKind("nodes 3; end edges 1 |0 to 15");
    }

    static void promise04_otherSpacesAreNoBlanks() {
        for (char sign : new char[] {0, 9, 10, 13, 31, 33, 160}) {
            wrongKind("nodes|" + sign + "3");
            wrongKind("nodes 3|" + sign);
        }
    }

    // ---- the first wrong byte

    static void promise04_moreMustCome() {
        wrongKind("|");
        wrongKind("   |");
        wrongKind("nodes|");
        wrongKind("nodes  |");
        wrongKind("nodes 3;|");
        wrongKind("nodes 3; |");
        wrongKind("nodes 3; most|");
        wrongKind("nodes 3; free |");
        wrongKind("nodes 3; without|");
        wrongKind("nodes 3; without 2:|");
        wrongKind("nodes 3; without 2: 0|");
        wrongKind("nodes 3; without 3: 0 1,|");
        wrongKind("nodes 3; end|");
        wrongKind("nodes 3; end edges|");
        wrongKind("nodes 3; end edges 0|");
        wrongKind("nodes 3; end edges 0 to|");
        wrongKind("nodes 3; end least |");
    }

    static void promise04_whatCannotStandThere() {
        wrongKind("|3");
        wrongKind("|; even");
        wrongKind("nodes 3 |4");
        wrongKind("nodes 3 |even");
        wrongKind("nodes 3 |: even");
        wrongKind("nodes 3; |; even");
        wrongKind("nodes 3; even |2");
        wrongKind("nodes 3; most 2 |3");
        wrongKind("nodes 3; free 3 |, 4");
        wrongKind("nodes 3; without 3 |0 1");
        wrongKind("nodes 3; without 3: 0 1 |1 2");
        wrongKind("nodes 3; without 3: 0 1 |: 1 2");
        wrongKind("nodes 3; end joined |3");
        wrongKind("nodes 3; end edges 0 |3");
        wrongKind("nodes 3; end |2");
    }

    static void promise04_aWordThatIsNone() {
        wrongKind("|knots 3");
        wrongKind("|hodes 3");
        wrongKind("|node 3");
        wrongKind("|node");
        wrongKind("nodes 3 |light");
        wrongKind("nodes 3; |foo");
        wrongKind("nodes 3; |joined");
        wrongKind("nodes 3; |least 2");
        wrongKind("nodes 3; end |foo");
        wrongKind("nodes 3; end |most 2");
        wrongKind("nodes 3; end edges 0 |bis 3");
    }

    static void promise04_aPairToldAlreadyIsWrongAtTheSecond() {
        wrongKind("nodes 3; without 3: 0 1, 0 |1");
        wrongKind("nodes 3; without 3: 0 1, 1 |0");
        wrongKind("nodes 3; without 3: 0 1, 0 2, 1 2, 2 |1");
        wrongKind("nodes 3; without 2: 0 1, 0 |1");
    }

    static void promise04_likeNodesAreWrongAtTheSecond() {
        wrongKind("nodes 3; without 3: 0 |0");
        wrongKind("nodes 3; without 3: 0 1, 2 |2");
    }

    static void promise04_nodesOfAWithoutAreBelowItsOwnNumber() {
        wrongKind("nodes 6; without 3: |3 0");
        wrongKind("nodes 6; without 3: 0 |3");
        rightKind("nodes 3; without 4: 0 3", 4);
        wrongKind("nodes 6; without 4: 0 |4");
    }

    static void promise04_theFirstOfSeveralFaults() {
        wrongKind("nodes |7 dark dark; foo");
        wrongKind("nodes 3; most |9; most 9");
        wrongKind("nodes 3; |foo; free 9");
    }
}
