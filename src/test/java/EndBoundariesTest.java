/** The boundaries of promises 11 to 20: what comes in the end, what opens it, what keeps off. */
public final class EndBoundariesTest extends Sentences {
    private static final String NO_TWO = "-1 NOBODY: no such DANCER, one twice.";
    private static final String NO_WHAT = "-2 OTHER: what, LAW.";
    private static final int[] CHAIN = {1, 12, 23, 34, 45, 56, 67};

    public static void main(String[] args) {
        Sentences table = new Sentences();
        everAndRounds(table);
        closed(table);
        opensBestFewest(table);
        wantedAndOff(table);
        worthAndLaws(table);
        table.end(11, 20);
    }

    private static void everAndRounds(Sentences table) {
        table.test(11, NO_TWO, () -> onlyOfTwo("ever", WithTheSameOne::ever));
        table.test(11, "EVER: 1, 0.", EndBoundariesTest::everAndNever);
        table.test(11, "nobody TIRED, SHY, PROUD or VAIN (all of these as PLAIN ones;",
            EndBoundariesTest::allAsPlainOnes);
        table.test(11, "COUSINS stay", EndBoundariesTest::cousinsStay);
        table.test(11, "all PAIRS that MAY dance, again and again, till there is none",
            EndBoundariesTest::tillThereIsNone);
        table.test(12, NO_TWO, () -> onlyOfTwo("round", WithTheSameOne::round));
        table.test(12, "in which ROUND a PAIR does (1 ..)", EndBoundariesTest::theFirstAndTheLastRound);
        table.test(12, "in each all PAIRS that MAY as it begins DANCE at once", EndBoundariesTest::asItBegins);
        table.test(12, "0 it has; -9 never.", EndBoundariesTest::itHasOrNever);
    }

    private static void closed(Sentences table) {
        table.test(13, "CLOSED (what 0), LAST (1), HEAPS (2). -2.", EndBoundariesTest::anotherWhatOfClosed);
        table.test(13, "CLOSED: how many PAIRS have DANCED in the end", EndBoundariesTest::fromNoneToAllPairs);
        table.test(13, "LAST: how many ROUNDS till then", EndBoundariesTest::fromNoRoundToSix);
        table.test(13, "HEAPS: parts in which DANCERS hang together by PAIRS that have DANCED",
            EndBoundariesTest::fromNoHeapToEight);
    }

    private static void opensBestFewest(Sentences table) {
        table.test(14, NO_TWO, () -> onlyOfTwo("opens", WithTheSameOne::opens));
        table.test(14, "-3 they have DANCED", EndBoundariesTest::noneIsOpenedTwice);
        table.test(14, "OPENS. -1; -3 they have DANCED.", EndBoundariesTest::nobodyIsToldBeforeState);
        table.test(14, "how many PAIRS more have DANCED in the end (EVER), if it had now",
            EndBoundariesTest::fromNoneToSixteenMore);
        table.test(14, "(it is one of these, if it would not have)", EndBoundariesTest::itIsOneOfThese);
        table.test(15, "-9 none has not DANCED", EndBoundariesTest::noneHasNotDanced);
        table.test(15, "of several the least", EndBoundariesTest::ofSeveralTheLeast);
        table.test(15, "the PAIR (10 times the lesser and the other) that OPENS most",
            EndBoundariesTest::theLeastAndTheGreatestPair);
        table.test(16, NO_WHAT, EndBoundariesTest::anotherWhatOfFewest);
        table.test(16, "the fewest PAIRS (0 .. 3) that would have to have DANCED besides so that all have in the end; "
            + "-9 more", EndBoundariesTest::fromNoneToMoreThanThree);
        table.test(16, "how many (what 0; -9), the first of the first set (1; -9 none)",
            EndBoundariesTest::noFirstOfNone);
        table.test(16, "the first of the first such set (by PAIRS rising, one behind the other)",
            EndBoundariesTest::theFirstSet);
    }

    private static void wantedAndOff(Sentences table) {
        table.test(17, NO_TWO, () -> onlyOfTwo("wanted", WithTheSameOne::wanted));
        table.test(17, "the least number (0 .. 3) of DANCES", EndBoundariesTest::fromNoDanceToThree);
        table.test(17, "0 it has DANCED; -9 more, none.", EndBoundariesTest::itHasDancedOrMoreOrNone);
        table.test(17, "by MAY as it is (with KINDS; BROUGHT as it goes;", EndBoundariesTest::withKinds);
        table.test(17, "by whom one likes", EndBoundariesTest::byWhomOneLikes);
        table.test(18, NO_TWO, () -> onlyOfTwo("off", WithTheSameOne::off));
        table.test(18, "the fewest PAIRS (0 .. 2) of those that have DANCED, without which it would have DANCED never",
            EndBoundariesTest::fromNoneToTwoWithout);
        table.test(18, "if it has DANCED it is one of these; -9 more.", EndBoundariesTest::moreThanTwoWithout);
    }

    private static void worthAndLaws(Sentences table) {
        table.test(19, "WORTH. -1.", EndBoundariesTest::worthOfNobody);
        table.test(19, "how many PAIRS fewer have DANCED in the end, if he BRINGS nobody (EVER)",
            EndBoundariesTest::fromNoneToTwentyOneFewer);
        table.test(20, NO_WHAT, EndBoundariesTest::noSuchLaw);
        table.test(20, "BY LAW: CLOSED by another LAW.", EndBoundariesTest::byAnotherLaw);
    }

    private static void everAndNever() {
        WithTheSameOne x = plainOnes(4, 1, 12);
        due("they have", x.ever(0, 1), 1);
        due("they will", x.ever(2, 0), 1);
        due("never", x.ever(0, 3), 0);
        due("nothing has changed", x.count(1), 2);
    }

    private static void allAsPlainOnes() {
        String[] bringers = {"d10;", "d40;", "d22;", "d23;", "d59;", "d52;"};
        for (String kind : bringers) {
            // 0 has danced with 2 and 3 alone, so that a shy one is next to none, a vain one has two.
            WithTheSameOne x = with(kind + "d00;d00;d00;p02;p03;");
            due(kind + " does not bring", x.may(2, 3), 0);
            due(kind + " brings in the end", x.ever(2, 3), 1);
            due(kind + " in the first round", x.round(2, 3), 1);
            due(kind + " closes", x.closed(0), 3);
            due(kind + " is worth", x.worth(0), 1);
        }
        WithTheSameOne often = with("d11;" + "d00;".repeat(7), "p01;p02;p03;p04;p05;p06;p07;");
        due("a tired one of figure 1 for all", often.closed(1), 1);
        due("behind his dance", often.dance(1, 2, 0), 8);
        due("for all still", often.closed(0), 28);
    }

    private static void cousinsStay() {
        for (int law = 0; law <= 2; law++) {
            WithTheSameOne x = byTheLaw(law, with("d31;d31;d32;d01;"));
            due("cousins of one figure", x.ever(0, 1), 1);
            due("cousins of two figures", x.ever(0, 2), 0);
            due("a cousin and a plain one of one figure", x.ever(0, 3), 0);
            due("in the first round", x.round(1, 0), 1);
            due("one pair closes", x.closed(0), 1);
        }
    }

    private static void tillThereIsNone() {
        WithTheSameOne x = plainOnes(8, CHAIN);
        for (int pair : allPairs()) {
            due("ever of " + pair, x.ever(pair / 10, pair % 10), 1);
        }
        WithTheSameOne zip = zip();
        due("by six rounds", zip.ever(6, 7), 1);
        due("none of 0 and 7", zip.ever(0, 7), 0);
    }

    /** By the law ELDER each of six rounds makes a single pair: 13, 23, 34, 46, 56, 67. */
    private static WithTheSameOne zip() {
        return byTheLaw(2, plainOnes(8, 1, 3, 12, 24, 36, 45, 57));
    }

    private static void theFirstAndTheLastRound() {
        WithTheSameOne zip = zip();
        int[] pairs = {13, 23, 34, 46, 56, 67};
        for (int i = 0; i < pairs.length; i++) {
            due("round of " + pairs[i], zip.round(pairs[i] / 10, pairs[i] % 10), i + 1);
            due("round of " + pairs[i] + ", turned", zip.round(pairs[i] % 10, pairs[i] / 10), i + 1);
        }
    }

    private static void asItBegins() {
        WithTheSameOne x = plainOnes(8, CHAIN);
        int[] rounds = {0, 1, 2, 2, 3, 3, 3};
        for (int other = 1; other < 8; other++) {
            due("round(0, " + other + ")", x.round(0, other), rounds[other - 1]);
            due("round(7, " + (7 - other) + ")", x.round(7, 7 - other), rounds[other - 1]);
        }
        WithTheSameOne cousins = with("d31;d31;d00;p12;");
        due("cousins in the first", cousins.round(0, 1), 1);
        due("by a cousin in the second", cousins.round(0, 2), 2);
    }

    private static void itHasOrNever() {
        WithTheSameOne x = plainOnes(4, 1, 12);
        due("it has", x.round(1, 0), 0);
        due("it will", x.round(0, 2), 1);
        due("never", x.round(0, 3), -9);
        due("-9 is no refusal", refused(x), 0);
    }

    private static void anotherWhatOfClosed() {
        WithTheSameOne x = plainOnes(4, 1, 12);
        due("closed(0)", x.closed(0), 3);
        due("closed(1)", x.closed(1), 1);
        due("closed(2)", x.closed(2), 2);
        for (int what : new int[] {-1, 3, LEAST_INT, GREATEST_INT}) {
            due("closed(" + what + ")", x.closed(what), -2);
        }
        due("count(12)", x.count(12), 4);
    }

    private static void fromNoneToAllPairs() {
        due("nobody", new WithTheSameOne().closed(0), 0);
        due("one alone", plainOnes(1).closed(0), 0);
        due("two who never", plainOnes(2).closed(0), 0);
        due("two who have", plainOnes(2, 1).closed(0), 1);
        due("eight who never", plainOnes(8).closed(0), 0);
        due("eight in a chain", plainOnes(8, CHAIN).closed(0), 28);
        due("eight who have", allBut().closed(0), 28);
    }

    private static void fromNoRoundToSix() {
        due("nobody", new WithTheSameOne().closed(1), 0);
        due("none may", plainOnes(8).closed(1), 0);
        due("all have", allBut().closed(1), 0);
        due("one", plainOnes(3, 1, 12).closed(1), 1);
        due("three", plainOnes(8, CHAIN).closed(1), 3);
        due("six", zip().closed(1), 6);
    }

    private static void fromNoHeapToEight() {
        due("nobody", new WithTheSameOne().closed(2), 0);
        due("one alone", plainOnes(1).closed(2), 1);
        due("eight alone", plainOnes(8).closed(2), 8);
        due("one pair", plainOnes(8, 67).closed(2), 7);
        due("two heaps", plainOnes(8, 7, 75, 53, 31, 24, 46).closed(2), 2);
        due("a chain", plainOnes(8, CHAIN).closed(2), 1);
        due("a chain that goes to and fro", plainOnes(8, 7, 71, 16, 62, 25, 53, 34).closed(2), 1);
        due("all", allBut().closed(2), 1);
        due("cousins who have not danced yet", with("d31;d31;").closed(2), 2);
    }

    private static void noneIsOpenedTwice() {
        WithTheSameOne x = plainOnes(3, 1);
        due("they have", x.opens(0, 1), -3);
        due("turned", x.opens(1, 0), -3);
        due("they have not", x.opens(1, 2), 2);
        due("count(13)", x.count(13), 2);
    }

    private static void nobodyIsToldBeforeState() {
        WithTheSameOne x = plainOnes(2, 1);
        due("opens(0, 0)", x.opens(0, 0), -1);
        due("opens(0, 2)", x.opens(0, 2), -1);
        due("count(11)", x.count(11), 2);
        due("count(13)", x.count(13), 0);
    }

    private static void fromNoneToSixteenMore() {
        due("it comes anyway", plainOnes(3, 1, 12).opens(0, 2), 0);
        due("it alone", plainOnes(2).opens(0, 1), 1);
        due("two heaps of four", plainOnes(8, 1, 12, 23, 45, 56, 67).opens(0, 7), 16);
        WithTheSameOne x = plainOnes(8, 1, 12, 23, 45, 56, 67);
        x.opens(0, 7);
        due("nothing has changed", x.count(1), 6);
        due("nor has this", x.danced(0, 7), 0);
    }

    private static void itIsOneOfThese() {
        WithTheSameOne x = plainOnes(8);
        due("it is", x.opens(6, 7), 1);
        WithTheSameOne cousins = with("d31;d31;");
        due("cousins would have anyway", cousins.opens(0, 1), 0);
    }

    private static void noneHasNotDanced() {
        due("nobody", new WithTheSameOne().best(), -9);
        due("one alone", plainOnes(1).best(), -9);
        due("two who have", plainOnes(2, 1).best(), -9);
        WithTheSameOne all = allBut();
        due("eight who have", all.best(), -9);
        due("-9 is no refusal", refused(all), 0);
    }

    private static void ofSeveralTheLeast() {
        due("each opens 1", plainOnes(8).best(), 1);
        due("each opens 4", plainOnes(4, 1, 23).best(), 2);
        due("each opens 0", plainOnes(4, 1, 12, 23).best(), 2);
        due("a later one opens more", plainOnes(6, 23, 34, 5).best(), 2);
        due("the last one opens most", plainOnes(6, 23, 45).best(), 24);
    }

    private static void theLeastAndTheGreatestPair() {
        due("of two", plainOnes(2).best(), 1);
        due("the greatest", allBut(67).best(), 67);
        due("opens none, yet it is the only one", allBut(7).best(), 7);
    }

    private static void anotherWhatOfFewest() {
        WithTheSameOne x = plainOnes(3, 12);
        due("fewest(0)", x.fewest(0), 1);
        due("fewest(1)", x.fewest(1), 1);
        for (int what : new int[] {-1, 2, LEAST_INT, GREATEST_INT}) {
            due("fewest(" + what + ")", x.fewest(what), -2);
        }
        due("count(12)", x.count(12), 4);
    }

    private static void fromNoneToMoreThanThree() {
        due("nobody", new WithTheSameOne().fewest(0), 0);
        due("one alone", plainOnes(1).fewest(0), 0);
        due("a chain", plainOnes(8, CHAIN).fewest(0), 0);
        due("all have", allBut().fewest(0), 0);
        due("two alone", plainOnes(2).fewest(0), 1);
        due("two heaps", plainOnes(8, 1, 12, 23, 45, 56, 67).fewest(0), 1);
        due("three alone, by ELDER", byTheLaw(2, plainOnes(3)).fewest(0), 2);
        due("three alone, by TWO", byTheLaw(1, plainOnes(3)).fewest(0), 3);
        due("three heaps", plainOnes(8, 1, 12, 34, 45, 56).fewest(0), 2);
        due("four heaps", plainOnes(8, 1, 23, 45, 67).fewest(0), 3);
        due("five heaps", plainOnes(8, 1, 23, 45).fewest(0), -9);
        due("eight heaps", plainOnes(8).fewest(0), -9);
        WithTheSameOne x = plainOnes(8, 1, 23, 45, 67);
        x.fewest(0);
        due("nothing has changed", x.count(1), 4);
    }

    private static void noFirstOfNone() {
        due("nobody", new WithTheSameOne().fewest(1), -9);
        due("none is wanted", plainOnes(8, CHAIN).fewest(1), -9);
        WithTheSameOne more = plainOnes(8, 1, 23, 45);
        due("more, how many", more.fewest(0), -9);
        due("more, the first", more.fewest(1), -9);
        due("-9 is no refusal", refused(more), 0);
    }

    private static void theFirstSet() {
        due("of one", plainOnes(8, 1, 12, 23, 45, 56, 67).fewest(1), 4);
        due("the least pair", plainOnes(2).fewest(1), 1);
        // By TWO 6 hangs on 0 and 7 on 1 of six who have all; only they themselves come into a ring.
        WithTheSameOne greatest = byTheLaw(1, allBut(16, 26, 36, 46, 56, 7, 27, 37, 47, 57, 67));
        due("how many of the greatest pair", greatest.fewest(0), 1);
        due("the greatest pair", greatest.fewest(1), 67);
        due("of two", plainOnes(5, 1, 23).fewest(1), 2);
        due("of three", plainOnes(8, 1, 23, 45, 67).fewest(1), 2);
        due("one that comes anyway is not among them", plainOnes(5, 1, 12, 34).fewest(1), 3);
        // By the law TWO only a ring of four does; 02, 13, 23 is the first that ends one with 01.
        WithTheSameOne ring = byTheLaw(1, plainOnes(4, 1));
        due("three to a ring", ring.fewest(0), 3);
        due("the first of these", ring.fewest(1), 2);
        due("by ELDER all of 0", byTheLaw(2, plainOnes(4, 1, 3)).fewest(1), 2);
        due("the last pair", byTheLaw(1, plainOnes(3, 1, 2)).fewest(1), 12);
    }

    private static void fromNoDanceToThree() {
        WithTheSameOne x = plainOnes(8, CHAIN);
        for (int other = 1; other < 8; other++) {
            due("wanted(0, " + other + ")", x.wanted(0, other), other <= 4 ? other - 1 : -9);
            due("wanted(7, " + (7 - other) + ")", x.wanted(7, 7 - other), other <= 4 ? other - 1 : -9);
        }
        due("nothing has changed", x.count(1), 7);
        due("nobody has brought", x.count(4), 0);
    }

    private static void itHasDancedOrMoreOrNone() {
        WithTheSameOne x = plainOnes(8, 1, 12, 23, 34, 45);
        due("it has", x.wanted(1, 0), 0);
        due("three", x.wanted(0, 4), 3);
        due("four are more", x.wanted(0, 5), -9);
        due("none", x.wanted(0, 6), -9);
        due("none, of two alone", x.wanted(6, 7), -9);
        due("-9 is no refusal", refused(x), 0);
        due("cousins by nobody", with("d31;d31;").wanted(0, 1), 1);
        due("by the least pair, by nobody", with("d31;d31;d00;p12;").wanted(0, 2), 2);
        due("by the greatest pair, by nobody", with("d00;".repeat(6) + "d31;d31;p57;").wanted(5, 6), 2);
    }

    private static void withKinds() {
        due("tired of 0", with("d10;d00;d00;p01;p02;").wanted(1, 2), -9);
        due("tired of 1", with("d11;d00;d00;p01;p02;").wanted(1, 2), 1);
        // 0 and 3 need 0 and 2 by 1, and then 2; or 1 and 3 by 2, and then 1.
        due("each of both once", with("d00;d11;d11;d00;p01;p12;p23;").wanted(0, 3), 2);
        due("neither of both", with("d00;d10;d10;d00;p01;p12;p23;").wanted(0, 3), -9);
        // All of 1, 2, 3 hang on 0, who can once, and 4 hangs on 3: 1 and 3 by 0, then 1 and 4 by 3.
        due("he brings once", with("d11;d00;d00;d00;d00;p01;p02;p03;p34;").wanted(1, 4), 2);
        // 5 hangs on 4, too: 3 brings 0 and 4, 4 brings 0 and 5, 0 brings 1 and 5.
        due("he brings last", with("d11;d00;d00;d00;d00;d00;p01;p03;p34;p45;").wanted(1, 5), 3);
        // 0, who is proud of 3, brings 1 and 2, and then 2 brings 1 and 3.
        due("by 0 and by another", with("d23;d00;d00;d00;p01;p02;p23;").wanted(1, 3), 2);
        due("who has brought already", spent().wanted(1, 3), -9);
        WithTheSameOne rested = spent();
        rested.night();
        due("the next night he can", rested.wanted(1, 3), 1);
    }

    /** 0, who can once, has brought 1 and 2; 3 hangs on him alone, and 2 brings nobody. */
    private static WithTheSameOne spent() {
        WithTheSameOne x = with("d11;d10;d10;d00;p01;p02;p03;");
        x.dance(1, 2, 0);
        return x;
    }

    private static void byWhomOneLikes() {
        // By TWO, 4 and 5 need 1, who can once, and 3; so 3 and 4 must come by 2 and 0, not by the least.
        String dancers = "d00;d11;d00;d00;d00;d00;";
        due("by the third", byTheLaw(1, with(dancers, "p03;p04;p13;p14;p15;p23;p24;p35;")).wanted(4, 5), 2);
        due("without a third", byTheLaw(1, with(dancers, "p03;p04;p13;p14;p15;p35;")).wanted(4, 5), -9);
    }

    private static void fromNoneToTwoWithout() {
        due("never anyway", plainOnes(2).off(0, 1), 0);
        due("it alone", plainOnes(2, 1).off(0, 1), 1);
        due("one way", plainOnes(3, 1, 12).off(0, 2), 1);
        due("two ways", plainOnes(4, 1, 12, 3, 23).off(2, 0), 2);
        due("it and a way", plainOnes(3, 1, 12, 2).off(0, 2), 2);
        due("the least pair and a way", plainOnes(3, 1, 12, 2).off(1, 0), 2);
        due("the greatest pair and a way", plainOnes(8, 56, 57, 67).off(6, 7), 2);
        due("both that lead to it", plainOnes(5, 1, 2, 12, 13, 14, 23, 24, 34).off(0, 3), 2);
        due("far ends of a chain", plainOnes(8, CHAIN).off(0, 7), 1);
        due("the greatest pair", plainOnes(8, 67).off(7, 6), 1);
        due("by TWO, two ways", byTheLaw(1, plainOnes(4, 1, 12, 3, 23)).off(0, 2), 1);
        WithTheSameOne x = plainOnes(4, 1, 12, 3, 23);
        x.off(0, 2);
        due("nothing has changed", x.count(1), 4);
    }

    private static void moreThanTwoWithout() {
        due("it and two ways", plainOnes(4, 1, 2, 3, 12, 13).off(0, 1), -9);
        due("three ways", plainOnes(5, 1, 2, 3, 41, 42, 43).off(0, 4), -9);
        due("two of these ways", plainOnes(5, 1, 2, 3, 41, 42).off(0, 4), 2);
        WithTheSameOne cousins = with("d31;d31;p01;");
        due("cousins come anyway", cousins.off(0, 1), -9);
        due("cousins who have not danced", with("d31;d31;").off(0, 1), -9);
        due("-9 is no refusal", refused(cousins), 0);
    }

    private static void worthOfNobody() {
        due("on a new object", new WithTheSameOne().worth(0), -1);
        WithTheSameOne x = plainOnes(8, CHAIN);
        for (int number : new int[] {-1, 8, 9, LEAST_INT, GREATEST_INT}) {
            due("worth(" + number + ")", x.worth(number), -1);
        }
        due("count(11)", x.count(11), 5);
        due("the first", x.worth(0), 0);
        due("the last", x.worth(7), 0);
        due("no refusal more", refused(x), 5);
    }

    private static void fromNoneToTwentyOneFewer() {
        due("alone", plainOnes(1).worth(0), 0);
        due("the middle of all", plainOnes(8, 1, 2, 3, 4, 5, 6, 7).worth(0), 21);
        due("the last as the middle", plainOnes(8, 7, 17, 27, 37, 47, 57, 67).worth(7), 21);
        due("one of its ends", plainOnes(8, 1, 2, 3, 4, 5, 6, 7).worth(1), 0);
        due("where all have", allBut().worth(0), 0);
        due("one of two ways", plainOnes(4, 1, 12, 3, 23).worth(1), 0);
        due("one of two ways by TWO", byTheLaw(1, plainOnes(4, 1, 12, 3, 23)).worth(1), 1);
    }

    private static void noSuchLaw() {
        WithTheSameOne x = plainOnes(3, 1, 2);
        for (int law : new int[] {-1, 3, LEAST_INT, GREATEST_INT}) {
            due("byLaw(" + law + ")", x.byLaw(law), -2);
        }
        due("count(12)", x.count(12), 4);
        due("the first law", x.byLaw(0), 3);
        due("the last law", x.byLaw(2), 3);
        due("count(12) still", x.count(12), 4);
    }

    private static void byAnotherLaw() {
        due("nobody", new WithTheSameOne().byLaw(2), 0);
        for (int law = 0; law <= 2; law++) {
            WithTheSameOne x = byTheLaw(law, plainOnes(4, 1, 12, 23));
            due("ONE", x.byLaw(0), 6);
            due("TWO", x.byLaw(1), 3);
            due("ELDER", x.byLaw(2), 3);
            due("the law stays", x.count(3), law);
        }
    }
}
