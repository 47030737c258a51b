/** The boundaries of promises 1 to 5: a new object, letters, balls, dancers, the law. */
public final class BallBoundariesTest extends Sentences {
    private static final String SIXTY_FOUR = "l0;l1;l2;l0;d00;d10;d20;d30;d40;d50;d09;d19;p01;p02;p03;p04;p05;";

    public static void main(String[] args) {
        Sentences table = new Sentences();
        newObject(table);
        letters(table);
        statements(table);
        faultsOfTheFirstKind(table);
        faultsOfTheSecondKind(table);
        dancersAndLaw(table);
        table.end(1, 5);
    }

    private static void newObject(Sentences table) {
        table.test(1, "No DANCERS.", BallBoundariesTest::nobodyIsThere);
        table.test(1, "PAIRS of unlike DANCERS (whichever comes first) who have DANCED (none at first)",
            BallBoundariesTest::noneHaveDancedAtFirst);
        table.test(1, "BROUGHT: how often one has brought a PAIR (0 at first)",
            BallBoundariesTest::nobodyHasBroughtAtFirst);
        table.test(1, "LAWS: 0 ONE, 1 TWO, 2 ELDER (0 at first)", BallBoundariesTest::theFirstLawIsOne);
        table.test(1, "`WithTheSameOne()`: No DANCERS.", BallBoundariesTest::everyCallOnANewObject);
    }

    private static void letters(Sentences table) {
        table.test(2, "A letter comes: how many there are.", BallBoundariesTest::lettersAreCounted);
        table.test(2, "-4; -6 (255; 64, too)", BallBoundariesTest::theLeastLetter);
        table.test(2, "-6 (255; 64, too)", BallBoundariesTest::theGreatestLetter);
        table.test(2, "64, too", BallBoundariesTest::theLastLetterThatHasRoom);
        table.test(2, "`int feed(int letter)`: A letter comes: how many there are. -4; -6 (255; 64, too).",
            BallBoundariesTest::belowIsToldBeforeNoRoom);
        table.test(2, "nothing changes but how many there were", BallBoundariesTest::refusedLettersDoNotCome);
    }

    private static void statements(Sentences table) {
        table.test(3, "The letters, which are no more then, are a BALL", BallBoundariesTest::lettersAreNoMore);
        table.test(3, "how many STATEMENTS", BallBoundariesTest::statementsAreCounted);
        table.test(3, "A BALL is told in letters, one by one (64 at most)", BallBoundariesTest::sixtyFourLetters);
        table.test(3, "At least one STATEMENT.", BallBoundariesTest::noStatement);
        table.test(3, "DANCERS 0 .. 7 as they come", BallBoundariesTest::eightDancers);
        table.test(3, "of KINDS: 0 PLAIN; 1 TIRED under PLAIN; 2 PROUD under PLAIN; 3 COUSIN under PLAIN; "
            + "4 SHY under TIRED; 5 VAIN under PROUD", BallBoundariesTest::sixKinds);
        table.test(3, "with a FIGURE (0 .. 9)", BallBoundariesTest::tenFigures);
        table.test(3, "\"p\" two digits: this PAIR has DANCED", BallBoundariesTest::pairsOfTheFirstAndTheLast);
        table.test(3, "\"l\" a digit: the LAW", BallBoundariesTest::threeLaws);
        table.test(3, "Without FAULT all of it comes, with one nothing.", BallBoundariesTest::allOrNothing);
        table.test(3, "(A PAIR told twice is well.)", BallBoundariesTest::aPairToldTwice);
        table.test(3, "the FAULT (nothing is counted)", BallBoundariesTest::noFaultIsCounted);
    }

    private static void faultsOfTheFirstKind(Sentences table) {
        table.test(3, "kind 1 the place of the first letter with which no BALL can go on",
            BallBoundariesTest::noStatementBeginsSo);
        table.test(3, "\"d\" KIND, FIGURE (a digit each): a DANCER more", BallBoundariesTest::noDigits);
        table.test(3, "STATEMENTS, each with \";\" behind", BallBoundariesTest::noSemicolon);
        table.test(3, "(the end, if something lacks)", BallBoundariesTest::somethingLacks);
        table.test(3, "-1000 less the place", BallBoundariesTest::theFirstAndTheLastPlaceOfKindOne);
        table.test(3, "else kind 2", BallBoundariesTest::kindOneIsToldBeforeKindTwo);
    }

    private static void faultsOfTheSecondKind(Sentences table) {
        table.test(3, "the place of the first letter of the first STATEMENT that is not as it must be",
            BallBoundariesTest::theFirstWrongStatement);
        table.test(3, "a number out of range", BallBoundariesTest::aNumberOutOfRange);
        table.test(3, "who is not there", BallBoundariesTest::whoIsNotThere);
        table.test(3, "one twice", BallBoundariesTest::oneTwice);
        table.test(3, "no room): -2000 less the place", BallBoundariesTest::noRoomForANinth);
        table.test(3, "-2000 less the place", BallBoundariesTest::theFirstAndTheLastPlaceOfKindTwo);
    }

    private static void dancersAndLaw(Sentences table) {
        table.test(4, "KIND (what 0), FIGURE (1), BROUGHT (2), with how many it has DANCED (3). -1; -2.",
            BallBoundariesTest::anotherWhatOfADancer);
        table.test(4, "-1 NOBODY: no such DANCER", BallBoundariesTest::noSuchDancer);
        table.test(4, "with how many it has DANCED (3)", BallBoundariesTest::withNobodyAndWithAll);
        table.test(4, "`int dancer(int dancer, int what)`: Of a DANCER", BallBoundariesTest::nobodyIsToldBeforeOther);
        table.test(5, "The LAW: what it was. -2.", BallBoundariesTest::noSuchLaw);
    }

    private static void nobodyIsThere() {
        WithTheSameOne x = new WithTheSameOne();
        due("count(0)", x.count(0), 0);
        due("dancer(0, 0)", x.dancer(0, 0), -1);
        due("closed(2)", x.closed(2), 0);
    }

    private static void noneHaveDancedAtFirst() {
        due("count(1)", new WithTheSameOne().count(1), 0);
        WithTheSameOne x = with("d00;d00;");
        due("danced(0, 1)", x.danced(0, 1), 0);
        due("dancer(0, 3)", x.dancer(0, 3), 0);
    }

    private static void nobodyHasBroughtAtFirst() {
        due("count(4)", new WithTheSameOne().count(4), 0);
        WithTheSameOne x = with("d19;d00;");
        due("dancer(0, 2)", x.dancer(0, 2), 0);
        due("dancer(1, 2)", x.dancer(1, 2), 0);
    }

    private static void theFirstLawIsOne() {
        WithTheSameOne x = new WithTheSameOne();
        due("count(3)", x.count(3), 0);
        due("law(2)", x.law(2), 0);
    }

    private static void everyCallOnANewObject() {
        WithTheSameOne x = new WithTheSameOne();
        due("ball()", x.ball(), -1000);
        due("closed(0)", x.closed(0), 0);
        due("closed(1)", x.closed(1), 0);
        due("best()", x.best(), -9);
        due("fewest(0)", x.fewest(0), 0);
        due("fewest(1)", x.fewest(1), -9);
        due("byLaw(1)", x.byLaw(1), 0);
        due("judge()", x.judge(), -9);
        due("load()", x.load(), 0);
        due("cards()", x.cards(), 1);
        due("clear()", x.clear(), 0);
        due("night()", x.night(), 0);
        due("no refusal so far", refused(x), 0);
        due("worth(0)", x.worth(0), -1);
        due("danced(0, 1)", x.danced(0, 1), -1);
        due("dance(0, 1, 9)", x.dance(0, 1, 9), -1);
        due("seeds(1, 1)", x.seeds(1, 1), -3);
        due("restore()", x.restore(), -3);
        due("image()", x.image(), 0);
    }

    private static void lettersAreCounted() {
        WithTheSameOne x = new WithTheSameOne();
        due("count(5)", x.count(5), 0);
        for (int i = 1; i <= 64; i++) {
            due("feed, the " + i + "th", x.feed(i), i);
            due("count(5)", x.count(5), i);
        }
    }

    private static void theLeastLetter() {
        WithTheSameOne x = new WithTheSameOne();
        due("feed(-1)", x.feed(-1), -4);
        due("feed(least int)", x.feed(LEAST_INT), -4);
        due("feed(0)", x.feed(0), 1);
        due("count(14)", x.count(14), 2);
    }

    private static void theGreatestLetter() {
        WithTheSameOne x = new WithTheSameOne();
        due("feed(256)", x.feed(256), -6);
        due("feed(greatest int)", x.feed(GREATEST_INT), -6);
        due("feed(255)", x.feed(255), 1);
        due("count(16)", x.count(16), 2);
    }

    private static void theLastLetterThatHasRoom() {
        WithTheSameOne x = new WithTheSameOne();
        feedAll(x, "d".repeat(63));
        due("the 64th", x.feed('d'), 64);
        due("the 65th", x.feed('d'), -6);
        due("too great a 65th", x.feed(256), -6);
        due("count(16)", x.count(16), 2);
        due("count(5)", x.count(5), 64);
        x.ball();
        due("there is room again", x.feed('d'), 1);
    }

    private static void belowIsToldBeforeNoRoom() {
        WithTheSameOne x = new WithTheSameOne();
        feedAll(x, "d".repeat(64));
        due("feed(-1) without room", x.feed(-1), -4);
        due("count(14)", x.count(14), 1);
        due("count(16)", x.count(16), 0);
    }

    private static void refusedLettersDoNotCome() {
        WithTheSameOne x = new WithTheSameOne();
        x.feed(-1);
        feedAll(x, "d0");
        x.feed(256);
        feedAll(x, "0;");
        x.feed(LEAST_INT);
        due("ball()", x.ball(), 1);
        WithTheSameOne full = new WithTheSameOne();
        feedAll(full, "l2;".repeat(20) + "d00;");
        full.feed('x');
        due("ball() of 64 and a refused one", full.ball(), 21);
    }

    private static void lettersAreNoMore() {
        for (String text : new String[] {"d00;", "x", "d00", "d60;", ""}) {
            WithTheSameOne x = new WithTheSameOne();
            tell(x, text);
            due("count(5) behind \"" + text + "\"", x.count(5), 0);
            due("a second ball() behind \"" + text + "\"", x.ball(), -1000);
            due("feed behind \"" + text + "\"", x.feed('l'), 1);
            due("the rest of another", tell(x, "1;"), 1);
        }
    }

    private static void statementsAreCounted() {
        due("one", told("l0;"), 1);
        due("two", told("l0;d00;"), 2);
        due("the most", told("l0;".repeat(20) + "d00;"), 21);
    }

    private static void sixtyFourLetters() {
        due("60 letters", told("l0;".repeat(20)), 20);
        due("63 letters", told("l0;".repeat(21)), 21);
        WithTheSameOne x = new WithTheSameOne();
        due("64 letters and four that have no room", tell(x, SIXTY_FOUR + "p06;"), 17);
        due("the last statement came", x.danced(0, 5), 1);
        due("the one behind did not", x.danced(0, 6), 0);
    }

    private static void noStatement() {
        WithTheSameOne x = new WithTheSameOne();
        due("no letter", x.ball(), -1000);
        due("only ;", tell(x, ";"), -1000);
        due("one", tell(x, "l0;"), 1);
        due("none again", x.ball(), -1000);
    }

    private static void eightDancers() {
        WithTheSameOne x = new WithTheSameOne();
        due("eight", tell(x, "d00;d01;d02;d03;d04;d05;d06;d07;"), 8);
        due("count(0)", x.count(0), 8);
        for (int i = 0; i < 8; i++) {
            due("figure of " + i, x.dancer(i, 1), i);
        }
        due("dancer(8, 0)", x.dancer(8, 0), -1);
        due("a ninth", tell(x, "d08;"), -2000);
        due("nine at once", told("d00;".repeat(9)), -2032);
        WithTheSameOne more = with("d01;d02;d03;", "d04;", "d05;d06;d07;");
        due("the fourth", more.dancer(3, 1), 4);
        due("the eighth", tell(more, "d08;"), 1);
        due("it is number 7", more.dancer(7, 1), 8);
        due("no ninth", tell(more, "d09;"), -2000);
    }

    private static void sixKinds() {
        for (int kind = 0; kind <= 9; kind++) {
            WithTheSameOne x = new WithTheSameOne();
            due("kind " + kind, tell(x, "d" + kind + "0;"), kind <= 5 ? 1 : -2000);
            due("dancer(0, 0) of kind " + kind, x.dancer(0, 0), kind <= 5 ? kind : -1);
        }
    }

    private static void tenFigures() {
        for (int kind = 0; kind <= 5; kind++) {
            for (int figure = 0; figure <= 9; figure++) {
                WithTheSameOne x = with("d" + kind + figure + ";");
                due("figure " + figure, x.dancer(0, 1), figure);
            }
        }
    }

    private static void pairsOfTheFirstAndTheLast() {
        WithTheSameOne x = plainOnes(8);
        due("0 and 7", tell(x, "p07;"), 1);
        due("7 and 6", tell(x, "p76;"), 1);
        due("danced(7, 0)", x.danced(7, 0), 1);
        due("danced(6, 7)", x.danced(6, 7), 1);
        due("danced(0, 6)", x.danced(0, 6), 0);
        due("count(1)", x.count(1), 2);
    }

    private static void threeLaws() {
        WithTheSameOne x = new WithTheSameOne();
        for (int law = 9; law >= 0; law--) {
            due("law " + law, tell(x, "l" + law + ";"), law <= 2 ? 1 : -2000);
            due("count(3)", x.count(3), law <= 2 ? law : 0);
        }
        due("two laws", tell(x, "l2;l1;"), 2);
        due("the last holds", x.count(3), 1);
    }

    private static void allOrNothing() {
        String[] faults = {"d60;", "p00;", "p08;", "l3;", "x", "d0", "d00"};
        for (String fault : faults) {
            WithTheSameOne x = with("d12;d00;d00;p01;p02;");
            x.dance(1, 2, 0);
            tell(x, "l2;d00;d00;p34;p03;" + fault);
            due("dancers, with " + fault, x.count(0), 3);
            due("pairs, with " + fault, x.count(1), 3);
            due("law, with " + fault, x.count(3), 0);
            due("partners, with " + fault, x.dancer(0, 3), 2);
            due("without it", tell(x, "l2;d00;d00;p34;p03;"), 5);
            due("dancers", x.count(0), 5);
            due("pairs", x.count(1), 5);
            due("law", x.count(3), 2);
            due("who had brought still has", x.dancer(0, 2), 1);
        }
    }

    private static void aPairToldTwice() {
        WithTheSameOne x = with("d00;d00;");
        due("thrice in one ball", tell(x, "p01;p10;p01;"), 3);
        due("count(1)", x.count(1), 1);
        due("in another ball", tell(x, "p10;"), 1);
        due("count(1) still", x.count(1), 1);
        due("dancer(0, 3)", x.dancer(0, 3), 1);
    }

    private static void noFaultIsCounted() {
        WithTheSameOne x = new WithTheSameOne();
        for (String text : new String[] {"", "x", "d", "d60;", "p00;", "l3;", "d00;".repeat(9)}) {
            tell(x, text);
            due("refusals behind \"" + text + "\"", refused(x), 0);
        }
    }

    private static void noStatementBeginsSo() {
        int[] letters = {0, 'c', 'e', 'o', 'q', 'k', 'm', 'D', 'P', 'L', ';', '0', '9', ' ', 'd' + 128, 255};
        for (int letter : letters) {
            WithTheSameOne x = new WithTheSameOne();
            x.feed(letter);
            due("letter " + letter + " first", tell(x, "00;"), -1000);
            feedAll(x, "d00;l0;");
            x.feed(letter);
            due("letter " + letter + " behind a statement", tell(x, "00;"), -1007);
        }
    }

    private static void noDigits() {
        String[] others = {"/", ":", ";", "d", " ", "-"};
        for (String other : others) {
            due("d" + other + "0;", told("d" + other + "0;"), -1001);
            due("d0" + other + ";", told("d0" + other + ";"), -1002);
            due("p" + other + "1;", told("p" + other + "1;"), -1001);
            due("p0" + other + ";", told("p0" + other + ";"), -1002);
            due("l" + other + ";", told("l" + other + ";"), -1001);
        }
        due("the least and the greatest digit", told("d00;d09;p01;l0;"), 4);
        due("9 is a digit of a kind", told("d90;"), -2000);
    }

    private static void noSemicolon() {
        for (String other : new String[] {":", "<", "0", "9", "d", "p", "l"}) {
            due("d00" + other, told("d00" + other), -1003);
            due("p01" + other, told("p01" + other), -1003);
            due("l0" + other, told("l0" + other), -1002);
        }
        due("two of them", told("d00;;"), -1004);
    }

    private static void somethingLacks() {
        String text = "d00;d00;p01;l2;";
        for (int length = 0; length <= text.length(); length++) {
            boolean isWhole = length == 4 || length == 8 || length == 12 || length == 15;
            int statements = length == 15 ? 4 : length / 4;
            due(text.substring(0, length), told(text.substring(0, length)),
                isWhole ? statements : -1000 - length);
        }
        // What was told before is no more, though it would end the statement.
        for (String lacking : new String[] {"d", "d0", "d00", "p", "p0", "p01", "l", "l0"}) {
            WithTheSameOne x = with(text);
            due(lacking + " behind a ball", tell(x, lacking), -1000 - lacking.length());
        }
    }

    private static void theFirstAndTheLastPlaceOfKindOne() {
        due("place 0", told("x"), -1000);
        due("place 63", told("l0;".repeat(20) + "d00:"), -1063);
        due("place 63 begins a statement", told("l0;".repeat(21) + "x"), -1063);
        due("the end of 63", told("l0;".repeat(20) + "d00"), -1063);
        due("the end of 64", told("l0;".repeat(21) + "d"), -1064);
        due("the end of 64, only ; lacks", told("l0;".repeat(15) + "d00;".repeat(4) + "p01"), -1064);
        due("place 63 is a digit too many", told("l0;".repeat(20) + "d000"), -1063);
    }

    private static void kindOneIsToldBeforeKindTwo() {
        due("a wrong statement, then a wrong letter", told("d60;x"), -1004);
        due("a wrong statement, then something lacks", told("p00;d0"), -1006);
        due("a wrong law, then no digit", told("l9;lx;"), -1004);
        due("no wrong letter", told("l9;l0;"), -2000);
    }

    private static void theFirstWrongStatement() {
        due("the first of one", told("d60;"), -2000);
        due("the second", told("d00;d60;"), -2004);
        due("the third, behind a law", told("d00;l1;p01;d00;"), -2007);
        due("the first of three", told("l0;l3;p00;d90;"), -2003);
    }

    private static void aNumberOutOfRange() {
        due("the greatest kind", told("d50;"), 1);
        due("a kind above", told("d60;"), -2000);
        due("the greatest kind above", told("d99;"), -2000);
        due("the greatest law", told("l2;"), 1);
        due("a law above", told("l3;"), -2000);
        due("the greatest law above", told("l9;"), -2000);
    }

    private static void whoIsNotThere() {
        due("nobody is", told("p01;"), -2000);
        due("the second is not", told("d00;p01;"), -2004);
        due("the first is not", told("d00;p10;"), -2004);
        due("both are", told("d00;d00;p10;"), 3);
        due("he comes only then", told("d00;p01;d00;"), -2004);
        WithTheSameOne x = plainOnes(8);
        due("the last is", tell(x, "p67;"), 1);
        due("8 is not", tell(x, "p78;"), -2000);
        due("8 is not, first", tell(x, "p87;"), -2000);
        due("9 is not", tell(x, "p09;"), -2000);
        due("9 is not, first", tell(x, "p90;"), -2000);
    }

    private static void oneTwice() {
        WithTheSameOne x = plainOnes(8);
        for (int i = 0; i <= 9; i++) {
            due(i + " twice", tell(x, "p" + i + i + ";"), -2000);
        }
        due("count(1)", x.count(1), 0);
    }

    private static void noRoomForANinth() {
        WithTheSameOne x = plainOnes(7);
        due("two more at once", tell(x, "d00;d00;"), -2004);
        due("none of them came", x.count(0), 7);
        due("one more", tell(x, "d00;"), 1);
        due("count(0)", x.count(0), 8);
        due("one too many", tell(x, "l1;p07;d00;"), -2007);
        due("count(0) still", x.count(0), 8);
    }

    private static void theFirstAndTheLastPlaceOfKindTwo() {
        due("place 0", told("p00;"), -2000);
        due("place 60", told("l0;".repeat(20) + "d60;"), -2060);
        due("place 61", told("l0;".repeat(15) + "d00;".repeat(4) + "l3;"), -2061);
    }

    private static void anotherWhatOfADancer() {
        WithTheSameOne x = with("d59;d00;d00;d00;p01;p02;p03;");
        x.dance(1, 2, 0);
        due("dancer(0, 0)", x.dancer(0, 0), 5);
        due("dancer(0, 1)", x.dancer(0, 1), 9);
        due("dancer(0, 2)", x.dancer(0, 2), 1);
        due("dancer(0, 3)", x.dancer(0, 3), 3);
        for (int what : new int[] {-1, 4, LEAST_INT, GREATEST_INT}) {
            due("dancer(0, " + what + ")", x.dancer(0, what), -2);
        }
        due("count(12)", x.count(12), 4);
    }

    private static void noSuchDancer() {
        WithTheSameOne x = new WithTheSameOne();
        for (int there = 0; there <= 8; there++) {
            for (int number = -1; number <= 9; number++) {
                int want = number >= 0 && number < there ? 3 : -1;
                due("dancer " + number + " of " + there, x.dancer(number, 0), want);
            }
            due("the least int", x.dancer(LEAST_INT, 0), -1);
            due("the greatest int", x.dancer(GREATEST_INT, 0), -1);
            tell(x, "d30;");
        }
    }

    private static void withNobodyAndWithAll() {
        WithTheSameOne x = plainOnes(8);
        for (int other = 1; other < 8; other++) {
            due("with " + (other - 1), x.dancer(0, 3), other - 1);
            dancedAlready(x, other);
            due("the other", x.dancer(other, 3), 1);
        }
        due("with all", x.dancer(0, 3), 7);
    }

    private static void nobodyIsToldBeforeOther() {
        WithTheSameOne x = with("d00;");
        due("dancer(1, 4)", x.dancer(1, 4), -1);
        due("dancer(-1, -1)", x.dancer(-1, -1), -1);
        due("count(11)", x.count(11), 2);
        due("count(12)", x.count(12), 0);
    }

    private static void noSuchLaw() {
        WithTheSameOne x = new WithTheSameOne();
        due("law(2)", x.law(2), 0);
        due("law(1)", x.law(1), 2);
        due("law(1) again", x.law(1), 1);
        for (int law : new int[] {-1, 3, LEAST_INT, GREATEST_INT}) {
            due("law(" + law + ")", x.law(law), -2);
            due("count(3)", x.count(3), 1);
        }
        due("law(0)", x.law(0), 1);
        due("count(3)", x.count(3), 0);
        due("count(12)", x.count(12), 4);
    }
}
