/** The boundaries of promises 6 to 10: who have danced, who brings, who may, a dance, a night. */
public final class PairBoundariesTest extends Sentences {
    private static final String NO_TWO = "-1 NOBODY: no such DANCER, one twice.";

    public static void main(String[] args) {
        Sentences table = new Sentences();
        pairs(table);
        kinds(table);
        laws(table);
        dances(table);
        nights(table);
        table.end(6, 10);
    }

    private static void pairs(Sentences table) {
        table.test(6, NO_TWO, () -> onlyOfTwo("danced", WithTheSameOne::danced));
        table.test(6, "Whether two have DANCED: 1, 0.", PairBoundariesTest::whetherTwoHaveDanced);
        table.test(6, "PAIRS of unlike DANCERS (whichever comes first)", PairBoundariesTest::whicheverComesFirst);
        table.test(7, NO_TWO, () -> onlyOfTwo("bringers", WithTheSameOne::bringers));
        table.test(7, "Those who BRING two (bits;", PairBoundariesTest::fromNobodyToAllOthers);
        table.test(7, "One BRINGS a PAIR of others", PairBoundariesTest::nobodyBringsHimself);
        table.test(7, "if he has DANCED with both", PairBoundariesTest::withOneAndWithBoth);
    }

    private static void kinds(Sentences table) {
        table.test(7, "PLAIN: always.", PairBoundariesTest::plainAlways);
        table.test(7, "TIRED: he has BROUGHT fewer than FIGURE.", PairBoundariesTest::tiredUpToHisFigure);
        table.test(7, "PROUD: DANCER FIGURE is neither of the two.", PairBoundariesTest::proudOfEachFigure);
        table.test(7, "COUSIN as a PLAIN.", PairBoundariesTest::cousinAsAPlain);
        table.test(7, "SHY: as a TIRED", PairBoundariesTest::shyUpToHisFigure);
        table.test(7, "one of both has a NUMBER next to his (1 more or 1 less)", PairBoundariesTest::shyNextToOne);
        table.test(7, "VAIN: as a PROUD", PairBoundariesTest::vainOfEachFigure);
        table.test(7, "he has DANCED with three at least", PairBoundariesTest::vainWithThree);
    }

    private static void laws(Sentences table) {
        table.test(7, "by the LAW ELDER only who counts", PairBoundariesTest::bringersByElder);
        table.test(8, NO_TWO, () -> onlyOfTwo("may", WithTheSameOne::may));
        table.test(8, "(0 who have DANCED)", PairBoundariesTest::whoHaveDancedMayNot);
        table.test(8, "ONE: if somebody BRINGS it", PairBoundariesTest::noneAndOneByOne);
        table.test(8, "TWO: if two at least BRING it", PairBoundariesTest::oneTwoThreeByTwo);
        table.test(8, "ELDER: if somebody with a lesser NUMBER than both BRINGS it",
            PairBoundariesTest::lesserThanBoth);
        table.test(8, "Two COUSINS of one FIGURE MAY in any case.", PairBoundariesTest::cousinsInAnyCase);
    }

    private static void dances(Sentences table) {
        table.test(9, "-1 two;", () -> onlyOfTwo("dance", (x, one, other) -> x.dance(one, other, 9)));
        table.test(9, "A DANCE: how many PAIRS have DANCED.", PairBoundariesTest::fromOnePairToAll);
        table.test(9, "-3 they MAY not", PairBoundariesTest::theyMayNot);
        table.test(9, "by is none of their BRINGERS", PairBoundariesTest::noneOfTheirBringers);
        table.test(9, "(9: they are no two COUSINS of one FIGURE)", PairBoundariesTest::byNobody);
        table.test(9, "(others do not count as BRINGERS then)", PairBoundariesTest::noYoungerOneByElder);
        table.test(9, "he has BROUGHT once more", PairBoundariesTest::heHasBroughtOnceMore);
        table.test(9, "(by TWO: he and the least other one who BRINGS it)", PairBoundariesTest::heAndTheLeastOther);
        table.test(9, "-1 two; -3 they MAY not, by is none of their BRINGERS",
            PairBoundariesTest::nobodyIsToldBeforeState);
    }

    private static void nights(Sentences table) {
        table.test(10, "nobody has BROUGHT any", PairBoundariesTest::nobodyHasBroughtAny);
        table.test(10, "what was danced stays", PairBoundariesTest::whatWasDancedStays);
        table.test(10, "how many had BROUGHT", PairBoundariesTest::howManyHadBrought);
    }

    private static void whetherTwoHaveDanced() {
        WithTheSameOne x = plainOnes(8, 7);
        due("danced(0, 7)", x.danced(0, 7), 1);
        due("danced(0, 6)", x.danced(0, 6), 0);
        due("danced(6, 7)", x.danced(6, 7), 0);
        WithTheSameOne all = allBut();
        for (int pair : allPairs()) {
            due("danced of all, " + pair, all.danced(pair / 10, pair % 10), 1);
        }
    }

    private static void whicheverComesFirst() {
        WithTheSameOne x = plainOnes(3, 10, 12);
        due("danced(0, 1)", x.danced(0, 1), 1);
        due("danced(1, 0)", x.danced(1, 0), 1);
        due("danced(2, 1)", x.danced(2, 1), 1);
        due("bringers(2, 0)", x.bringers(2, 0), x.bringers(0, 2));
        due("may(2, 0)", x.may(2, 0), 1);
        due("dance(2, 0, 1)", x.dance(2, 0, 1), 3);
        due("danced(0, 2)", x.danced(0, 2), 1);
    }

    private static void fromNobodyToAllOthers() {
        WithTheSameOne none = plainOnes(8);
        due("nobody has danced", none.bringers(0, 7), 0);
        WithTheSameOne all = allBut();
        due("all bring 0 and 1", all.bringers(0, 1), 0b11111100);
        due("all bring 6 and 7", all.bringers(6, 7), 0b00111111);
        due("all bring 7 and 0", all.bringers(7, 0), 0b01111110);
        WithTheSameOne last = plainOnes(8, 7, 17);
        due("the last one brings", last.bringers(0, 1), 0b10000000);
        WithTheSameOne first = plainOnes(8, 6, 7);
        due("the first one brings", first.bringers(6, 7), 1);
    }

    private static void nobodyBringsHimself() {
        WithTheSameOne x = plainOnes(3, 1, 2, 12);
        due("bringers(0, 1)", x.bringers(0, 1), 4);
        due("bringers(0, 2)", x.bringers(0, 2), 2);
        due("bringers(1, 2)", x.bringers(1, 2), 1);
        WithTheSameOne two = plainOnes(2, 1);
        due("two alone", two.bringers(0, 1), 0);
    }

    private static void withOneAndWithBoth() {
        WithTheSameOne x = plainOnes(3, 1);
        due("with one of both", x.bringers(0, 2), 0);
        dancedAlready(x, 12);
        due("with both", x.bringers(0, 2), 2);
    }

    private static void plainAlways() {
        for (int figure = 0; figure <= 9; figure++) {
            WithTheSameOne x = with("d0" + figure + ";d00;d00;d00;p01;p02;p03;");
            due("figure " + figure, x.bringers(1, 2), 1);
            due("figure " + figure + ", not next to him", x.bringers(2, 3), 1);
        }
        WithTheSameOne often = star("d00;");
        for (int i = 1; i <= 10; i++) {
            bringNext(often);
            due("behind " + i + " dances", often.bringers(6, 7) & 1, 1);
        }
    }

    /** 0 of this kind has danced with seven plain ones, and with them alone. */
    private static WithTheSameOne star(String first) {
        return with(first + "d00;".repeat(7), "p01;p02;p03;p04;p05;p06;p07;");
    }

    /** 0 brings the next pair of his that has not danced. */
    private static int bringNext(WithTheSameOne x) {
        for (int pair = 12; pair <= 67; pair++) {
            if (pair / 10 < pair % 10 && pair % 10 <= 7 && x.danced(pair / 10, pair % 10) == 0) {
                return x.dance(pair / 10, pair % 10, 0);
            }
        }
        return 0;
    }

    private static void tiredUpToHisFigure() {
        for (int figure = 0; figure <= 9; figure++) {
            upToHisFigure("d1" + figure + ";", figure);
        }
    }

    private static void upToHisFigure(String kind, int figure) {
        WithTheSameOne x = star(kind);
        for (int i = 0; i < figure; i++) {
            due(kind + " brought " + i, x.bringers(1, 7) & 1, 1);
            due(kind + " dance " + i, bringNext(x), 8 + i);
        }
        due(kind + " brought all", x.dancer(0, 2), figure);
        due(kind + " is tired", x.bringers(1, 7) & 1, 0);
        due(kind + " brings no more", x.dance(1, 7, 0), -3);
        due(kind + " brought no more", x.dancer(0, 2), figure);
    }

    private static void proudOfEachFigure() {
        for (int figure = 0; figure <= 9; figure++) {
            due("figure " + figure, star("d2" + figure + ";").bringers(1, 2), figure == 1 || figure == 2 ? 0 : 1);
            due("figure " + figure + ", turned", star("d2" + figure + ";").bringers(2, 1),
                figure == 1 || figure == 2 ? 0 : 1);
            due("figure " + figure + ", of 6 and 7", star("d2" + figure + ";").bringers(6, 7),
                figure == 6 || figure == 7 ? 0 : 1);
        }
        WithTheSameOne x = star("d21;");
        due("dance(1, 2, 0)", x.dance(1, 2, 0), -3);
        due("dance(2, 3, 0)", x.dance(2, 3, 0), 8);
    }

    private static void cousinAsAPlain() {
        for (int figure = 0; figure <= 9; figure++) {
            WithTheSameOne x = star("d3" + figure + ";");
            due("figure " + figure, x.bringers(1, 2), 1);
            due("not next to him, figure " + figure, x.bringers(6, 7), 1);
        }
        WithTheSameOne few = with("d31;d00;d00;p01;p02;");
        due("with two only", few.bringers(1, 2), 1);
    }

    private static void shyUpToHisFigure() {
        due("never with figure 0", with("d40;d00;d00;p01;p02;").bringers(1, 2), 0);
        for (int figure = 1; figure <= 5; figure++) {
            WithTheSameOne x = star("d4" + figure + ";");
            for (int i = 0; i < figure; i++) {
                due("brought " + i + " of " + figure, x.dance(1, 2 + i, 0), 8 + i);
            }
            due("then he is tired of " + figure, x.dance(1, 2 + figure, 0), -3);
            due("brought", x.dancer(0, 2), figure);
        }
    }

    private static void shyNextToOne() {
        // 3 is the shy one; he has danced with all others, who have not danced.
        WithTheSameOne x = with("d00;d00;d00;d49;" + "d00;".repeat(4), "p30;p31;p32;p34;p35;p36;p37;");
        for (int pair : allPairs()) {
            int one = pair / 10;
            int other = pair % 10;
            if (one != 3 && other != 3) {
                boolean isNext = one == 2 || one == 4 || other == 2 || other == 4;
                due("bringers(" + one + ", " + other + ")", x.bringers(one, other), isNext ? 8 : 0);
                due("bringers(" + other + ", " + one + ")", x.bringers(other, one), isNext ? 8 : 0);
            }
        }
        WithTheSameOne ends = with("d49;" + "d00;".repeat(6) + "d49;", "p01;p02;p06;p71;p75;p76;");
        due("0 and his 1", ends.bringers(2, 1) & 1, 1);
        due("0 without his 1", ends.bringers(2, 6) & 1, 0);
        due("7 and his 6", ends.bringers(5, 6), 128);
        due("7 without his 6", ends.bringers(1, 5), 0);
    }

    private static void vainOfEachFigure() {
        for (int figure = 0; figure <= 9; figure++) {
            due("figure " + figure, star("d5" + figure + ";").bringers(1, 2), figure == 1 || figure == 2 ? 0 : 1);
        }
    }

    private static void vainWithThree() {
        WithTheSameOne x = with("d59;d00;d00;d00;d00;p01;p02;");
        due("with two", x.bringers(1, 2), 0);
        due("he may not", x.dance(1, 2, 0), -3);
        dancedAlready(x, 3);
        due("with three", x.bringers(1, 2), 1);
        dancedAlready(x, 4);
        due("with four", x.bringers(1, 2), 1);
        due("he may", x.dance(1, 2, 0), 5);
    }

    private static void bringersByElder() {
        WithTheSameOne x = allBut(34);
        due("by ONE", x.bringers(3, 4), 0b11100111);
        x.law(1);
        due("by TWO", x.bringers(3, 4), 0b11100111);
        x.law(2);
        due("by ELDER", x.bringers(3, 4), 0b00000111);
        due("by ELDER, turned", x.bringers(4, 3), 0b00000111);
        due("none is lesser than 0", x.bringers(0, 7), 0);
        due("one is lesser than 1", x.bringers(1, 7), 1);
        due("those between do not count", x.bringers(2, 7), 3);
    }

    private static void whoHaveDancedMayNot() {
        WithTheSameOne x = plainOnes(3, 1, 12);
        due("not yet", x.may(0, 2), 1);
        x.dance(0, 2, 1);
        due("now they have", x.may(0, 2), 0);
        due("turned", x.may(2, 0), 0);
        WithTheSameOne cousins = with("d31;d31;");
        due("cousins, not yet", cousins.may(0, 1), 1);
        cousins.dance(0, 1, 9);
        due("cousins who have", cousins.may(0, 1), 0);
    }

    private static void noneAndOneByOne() {
        WithTheSameOne x = plainOnes(3, 1);
        due("nobody", x.may(0, 2), 0);
        dancedAlready(x, 12);
        due("one", x.may(0, 2), 1);
    }

    private static void oneTwoThreeByTwo() {
        WithTheSameOne x = byTheLaw(1, plainOnes(5, 2, 12, 3, 4));
        due("one", x.may(0, 1), 0);
        dancedAlready(x, 13);
        due("two", x.may(0, 1), 1);
        dancedAlready(x, 14);
        due("three", x.may(0, 1), 1);
        WithTheSameOne tired = byTheLaw(1, with("d00;d00;d00;d10;p02;p12;p03;p13;"));
        due("two, one of them tired", tired.may(0, 1), 0);
    }

    private static void lesserThanBoth() {
        for (int by = 0; by < 3; by++) {
            int one = by == 0 ? 1 : 0;
            int other = 3 - by - one;
            WithTheSameOne x = byTheLaw(2, plainOnes(3, 10 * by + one, 10 * by + other));
            due("by " + by, x.may(one, other), by == 0 ? 1 : 0);
            due("by " + by + ", turned", x.may(other, one), by == 0 ? 1 : 0);
        }
        WithTheSameOne last = byTheLaw(2, plainOnes(8, 56, 57));
        due("5 for 6 and 7", last.may(6, 7), 1);
        WithTheSameOne tired = byTheLaw(2, with("d10;d00;d00;p01;p02;"));
        due("a lesser one who does not bring", tired.may(1, 2), 0);
    }

    private static void cousinsInAnyCase() {
        WithTheSameOne x = with("d30;d30;d39;d39;d38;d00;d10;d59;");
        for (int law = 0; law < 3; law++) {
            x.law(law);
            for (int pair : allPairs()) {
                due("pair " + pair + " by the law " + law, x.may(pair / 10, pair % 10),
                    pair == 1 || pair == 23 ? 1 : 0);
            }
            due("count(2)", x.count(2), 2);
        }
    }

    private static void fromOnePairToAll() {
        WithTheSameOne x = with("d31;d31;");
        due("the first", x.dance(0, 1, 9), 1);
        WithTheSameOne all = allBut(7, 67);
        due("the last but one", all.dance(0, 7, 3), 27);
        due("the last", all.dance(6, 7, 0), 28);
        due("none is left", all.count(2), 0);
        due("nobody may", all.dance(6, 7, 0), -3);
    }

    private static void theyMayNot() {
        WithTheSameOne x = plainOnes(4, 1, 12);
        due("nobody brings", x.dance(0, 3, 1), -3);
        due("have danced", x.dance(0, 1, 2), -3);
        x.law(1);
        due("one does not do by TWO", x.dance(0, 2, 1), -3);
        x.law(2);
        due("no elder one", x.dance(0, 2, 1), -3);
        x.law(0);
        due("by ONE", x.dance(0, 2, 1), 3);
        due("again", x.dance(0, 2, 1), -3);
        due("count(13)", x.count(13), 5);
    }

    private static void noneOfTheirBringers() {
        WithTheSameOne x = plainOnes(5, 1, 12, 3);
        int[] others = {0, 2, 3, 4, 5, 7, 8, 9, 10, 31, 32, 33, 41, -1, -9, -31, -23, 65, LEAST_INT, LEAST_INT + 1,
            LEAST_INT + 9, GREATEST_INT};
        for (int by : others) {
            due("dance(0, 2, " + by + ")", x.dance(0, 2, by), -3);
        }
        due("count(13)", x.count(13), others.length);
        due("count(1)", x.count(1), 3);
        due("count(4)", x.count(4), 0);
        due("dance(0, 2, 1)", x.dance(0, 2, 1), 4);
    }

    private static void byNobody() {
        due("cousins of one figure", with("d31;d31;").dance(0, 1, 9), 1);
        due("cousins of two figures", with("d31;d32;").dance(0, 1, 9), -3);
        due("a cousin and a plain one of one figure", with("d31;d01;").dance(0, 1, 9), -3);
        due("plain ones who may", plainOnes(3, 1, 2).dance(1, 2, 9), -3);
        WithTheSameOne x = with("d31;d31;d00;p02;p12;");
        due("cousins by 8", x.dance(0, 1, 8), -3);
        due("cousins by 10", x.dance(0, 1, 10), -3);
        due("cousins by 41", x.dance(0, 1, 41), -3);
        due("cousins by 9, though 2 brings them", x.dance(0, 1, 9), 3);
        due("nobody has brought", x.count(4), 0);
        due("again", x.dance(0, 1, 9), -3);
        for (int law = 0; law < 3; law++) {
            due("by the law " + law, byTheLaw(law, with("d31;d31;")).dance(1, 0, 9), 1);
        }
        WithTheSameOne brought = with("d31;d31;d00;p02;p12;");
        due("cousins by one who brings them", brought.dance(0, 1, 2), 3);
        due("he has brought", brought.dancer(2, 2), 1);
    }

    private static void noYoungerOneByElder() {
        WithTheSameOne x = byTheLaw(2, allBut(34));
        due("by one between or greater", x.dance(3, 4, 5), -3);
        due("by the greatest", x.dance(3, 4, 7), -3);
        due("by the greatest lesser one", x.dance(3, 4, 2), 28);
        due("he alone has brought", x.count(4), 1);
        WithTheSameOne between = byTheLaw(2, plainOnes(4, 1, 3, 12, 23));
        due("by one between", between.dance(0, 2, 1), -3);
        WithTheSameOne cousins = byTheLaw(2, with("d31;d31;d00;p02;p12;"));
        due("cousins by one who does not count", cousins.dance(0, 1, 2), -3);
    }

    private static void heHasBroughtOnceMore() {
        for (int law = 0; law <= 2; law += 2) {
            WithTheSameOne x = byTheLaw(law, allBut(67, 57));
            due("dance(6, 7, 4)", x.dance(6, 7, 4), 27);
            due("dancer(4, 2)", x.dancer(4, 2), 1);
            due("dance(5, 7, 4)", x.dance(5, 7, 4), 28);
            due("dancer(4, 2) again", x.dancer(4, 2), 2);
            due("nobody else", x.count(4), 2);
        }
    }

    private static void heAndTheLeastOther() {
        int[][] byAndOther = {{0, 1}, {1, 0}, {2, 0}, {5, 0}};
        for (int[] two : byAndOther) {
            WithTheSameOne x = byTheLaw(1, allBut(67));
            due("dance(6, 7, " + two[0] + ")", x.dance(6, 7, two[0]), 28);
            due("he", x.dancer(two[0], 2), 1);
            due("the least other", x.dancer(two[1], 2), 1);
            due("nobody else", x.count(4), 2);
        }
        WithTheSameOne tired = byTheLaw(1, with("d10;d00;d00;d00;d00;p03;p13;p23;p04;p14;p24;"));
        due("the least does not bring", tired.dance(3, 4, 2), 7);
        due("so another has brought", tired.dancer(1, 2), 1);
        due("not he", tired.dancer(0, 2), 0);
        WithTheSameOne cousins = byTheLaw(1, with("d31;d31;d00;p02;p12;"));
        due("cousins by the only one who brings them", cousins.dance(0, 1, 2), 3);
        due("he alone has brought", cousins.count(4), 1);
    }

    private static void nobodyIsToldBeforeState() {
        WithTheSameOne x = plainOnes(3, 1, 12);
        due("no such other, no such bringer", x.dance(0, 3, 77), -1);
        due("one twice, who has danced with 1", x.dance(0, 0, 1), -1);
        due("count(11)", x.count(11), 2);
        due("count(13)", x.count(13), 0);
    }

    private static void nobodyHasBroughtAny() {
        WithTheSameOne x = star("d11;");
        x.dance(1, 2, 0);
        due("he is tired", x.dance(3, 4, 0), -3);
        x.night();
        due("dancer(0, 2)", x.dancer(0, 2), 0);
        due("count(4)", x.count(4), 0);
        due("he is fresh", x.dance(3, 4, 0), 9);
        due("and tired again", x.dance(5, 6, 0), -3);
        WithTheSameOne last = allBut(1);
        last.dance(0, 1, 7);
        due("the last one had", last.night(), 1);
        due("dancer(7, 2)", last.dancer(7, 2), 0);
    }

    private static void whatWasDancedStays() {
        WithTheSameOne x = byTheLaw(1, star("d00;"));
        dancedAlready(x, 21, 23);
        x.dance(1, 3, 2);
        x.night();
        due("count(1)", x.count(1), 10);
        due("danced(1, 3)", x.danced(1, 3), 1);
        due("the law stays", x.count(3), 1);
    }

    private static void howManyHadBrought() {
        WithTheSameOne x = star("d00;");
        due("nobody", x.night(), 0);
        x.dance(1, 2, 0);
        due("one", x.night(), 1);
        due("nobody since", x.night(), 0);
        x.dance(1, 3, 0);
        x.dance(1, 4, 0);
        due("one, who had twice", x.night(), 1);
        WithTheSameOne all = allBut(1, 12, 23, 34, 45, 56, 67, 7);
        for (int one = 0; one < 8; one++) {
            all.dance(one, (one + 1) % 8, (one + 3) % 8);
        }
        due("all pairs have danced", all.count(1), 28);
        due("all eight", all.night(), 8);
    }
}
