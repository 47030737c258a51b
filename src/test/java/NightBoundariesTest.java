import java.math.BigInteger;
import java.util.TreeSet;

/** The boundaries of promises 21 to 26: the told row, judged, its load, its orders, nights by seeds. */
public final class NightBoundariesTest extends Sentences {
    public static void main(String[] args) {
        Sentences table = new Sentences();
        row(table);
        judge(table);
        load(table);
        cardsAndClear(table);
        seeds(table);
        table.end(21, 26);
    }

    private static void row(Sentences table) {
        table.test(21, "A PAIR more of the ROW (0 .. 99): how many.", NightBoundariesTest::theLeastAndTheGreatest);
        table.test(21, "-4; -6 (99; 6, too)", NightBoundariesTest::belowIsToldBeforeNoRoom);
        table.test(21, "(as 10 times one and the other; 6 at most)", NightBoundariesTest::sixAtMost);
        table.test(21, "nothing changes but how many there were", NightBoundariesTest::refusedPairsDoNotCome);
    }

    private static void judge(Sentences table) {
        table.test(22, "JUDGED: the first (from 0)", NightBoundariesTest::eachPlaceOfTheRow);
        table.test(22, "that is no PAIR", NightBoundariesTest::noPair);
        table.test(22, "has DANCED by then", NightBoundariesTest::hasDancedByThen);
        table.test(22, "MAY not by then", NightBoundariesTest::mayNotByThen);
        table.test(22, "JUDGED; -9 (the ROW stays)", NightBoundariesTest::anEmptyRowAndAFullOne);
        table.test(22, "(in mind; of each the BRINGER is the least;", NightBoundariesTest::theLeastBrings);
        table.test(22, "COUSINS nobody, if nobody BRINGS it)", NightBoundariesTest::cousinsByNobody);
    }

    private static void load(Sentences table) {
        table.test(23, "LOAD: the least number so that BRINGERS can be chosen for all of the ROW",
            NightBoundariesTest::fromNoLoadToSix);
        table.test(23, "of whom none has BROUGHT more than that for these", NightBoundariesTest::onlyForThese);
        table.test(23, "COUSINS of one FIGURE take none", NightBoundariesTest::cousinsTakeNone);
        table.test(23, "KINDS as they are", NightBoundariesTest::loadWithKinds);
        table.test(23, "-9 it can't be", NightBoundariesTest::itCannotBe);
        table.test(23, "-3 the LAW is TWO", NightBoundariesTest::noLoadByTwo);
    }

    private static void cardsAndClear(Sentences table) {
        table.test(24, "-6 more than 5", NightBoundariesTest::fiveCardsAndSix);
        table.test(24, "in how many orders of the ROW (5 at most then) JUDGED would be -9",
            NightBoundariesTest::fromNoOrderToAll);
        table.test(25, "The ROW has none then: how many it had.", NightBoundariesTest::fromNoneToSixCleared);
    }

    private static void seeds(Sentences table) {
        table.test(26, "n times (1 .. 40)", NightBoundariesTest::theLeastAndTheMostTimes);
        table.test(26, "-3 there are no DANCERS", NightBoundariesTest::noDancers);
        table.test(26, "SEEDS. -4; -6 40; -3 there are no DANCERS.", NightBoundariesTest::numbersAreToldBeforeState);
        table.test(26, "z becomes z times 1103515245 and 12345 (an int)", NightBoundariesTest::seedsWrapAround);
        table.test(26, "(z without its sign's bit by 65536, cut) modulo n", NightBoundariesTest::drawsBelowEachNumber);
        table.test(26, "if these are two who have not DANCED and MAY, they do", NightBoundariesTest::twoWhoMay);
        table.test(26, "by the least BRINGER (likewise)", NightBoundariesTest::theLeastBringsBySeeds);
        table.test(26, "with a seed z, in mind", NightBoundariesTest::seedsAreInMind);
    }

    /** Eight of whom any two may in any case. */
    private static WithTheSameOne eightCousins() {
        return with("d30;".repeat(8));
    }

    /** 0, who is of this kind, has danced with seven plain ones, and with them alone. */
    private static WithTheSameOne star(String first) {
        return with(first + "d00;".repeat(7), "p01;p02;p03;p04;p05;p06;p07;");
    }

    private static void theLeastAndTheGreatest() {
        WithTheSameOne x = new WithTheSameOne();
        due("row(-1)", x.row(-1), -4);
        due("row(least int)", x.row(LEAST_INT), -4);
        due("row(100)", x.row(100), -6);
        due("row(greatest int)", x.row(GREATEST_INT), -6);
        due("row(0)", x.row(0), 1);
        due("row(99)", x.row(99), 2);
        due("count(14)", x.count(14), 2);
        due("count(16)", x.count(16), 2);
    }

    private static void belowIsToldBeforeNoRoom() {
        WithTheSameOne x = withRow(new WithTheSameOne(), 1, 2, 3, 4, 5, 6);
        due("row(-1) without room", x.row(-1), -4);
        due("count(16)", x.count(16), 0);
        due("row(100) without room", x.row(100), -6);
        due("count(16) once", x.count(16), 1);
    }

    private static void sixAtMost() {
        WithTheSameOne x = new WithTheSameOne();
        due("count(6)", x.count(6), 0);
        for (int i = 1; i <= 6; i++) {
            due("the " + i + "th", x.row(7), i);
            due("count(6)", x.count(6), i);
        }
        due("the seventh", x.row(7), -6);
        due("count(6)", x.count(6), 6);
        x.clear();
        due("there is room again", x.row(7), 1);
    }

    private static void refusedPairsDoNotCome() {
        WithTheSameOne x = eightCousins();
        x.row(-1);
        x.row(1);
        x.row(100);
        x.row(2);
        due("count(6)", x.count(6), 2);
        due("judge()", x.judge(), -9);
        WithTheSameOne full = withRow(eightCousins(), 1, 2, 3, 4, 5, 6);
        full.row(0);
        due("judge() of six and a refused one", full.judge(), -9);
    }

    private static void eachPlaceOfTheRow() {
        int[] good = {1, 32, 45, 76, 20, 13};
        for (int place = 0; place < 6; place++) {
            int[] row = good.clone();
            row[place] = 0;
            due("one wrong at " + place, withRow(eightCousins(), row).judge(), place);
            row[5] = 0;
            due("two wrong, the first at " + place, withRow(eightCousins(), row).judge(), place);
        }
        due("none is wrong", withRow(eightCousins(), good).judge(), -9);
    }

    private static void noPair() {
        WithTheSameOne x = eightCousins();
        WithTheSameOne three = with("d30;d30;d30;");
        for (int pair = 0; pair <= 99; pair++) {
            int one = pair / 10;
            int other = pair % 10;
            x.clear();
            x.row(pair);
            due("judge() of " + pair, x.judge(), one != other && one < 8 && other < 8 ? -9 : 0);
            three.clear();
            three.row(pair);
            due("judge() of " + pair + ", three are there", three.judge(), one != other && one < 3 && other < 3 ? -9 : 0);
        }
        due("on a new object", withRow(new WithTheSameOne(), 1).judge(), 0);
    }

    private static void hasDancedByThen() {
        WithTheSameOne x = eightCousins();
        dancedAlready(x, 7);
        due("before", withRow(x, 7).judge(), 0);
        due("before, turned", withRow(x, 70).judge(), 0);
        due("in the row", withRow(x, 1, 1).judge(), 1);
        due("in the row, turned", withRow(x, 1, 2, 3, 4, 5, 50).judge(), 5);
    }

    private static void mayNotByThen() {
        WithTheSameOne x = plainOnes(5, 1, 12, 23, 34);
        due("not yet", withRow(x, 3).judge(), 0);
        due("behind another", withRow(x, 2, 3).judge(), -9);
        due("behind two others", withRow(x, 2, 30, 4).judge(), -9);
        due("behind one of these", withRow(x, 2, 4).judge(), 1);
        x.law(1);
        due("by TWO", withRow(x, 2).judge(), 0);
        dancedAlready(x, 3);
        due("by TWO with two", withRow(x, 2, 13).judge(), -9);
        x.law(2);
        due("by ELDER", withRow(x, 13, 2).judge(), 1);
    }

    private static void anEmptyRowAndAFullOne() {
        WithTheSameOne x = eightCousins();
        due("empty", x.judge(), -9);
        withRow(x, 1, 2, 3, 4, 5, 6);
        due("full", x.judge(), -9);
        due("count(6)", x.count(6), 6);
        due("again", x.judge(), -9);
        due("none has danced", x.count(1), 0);
        due("-9 is no refusal", refused(x), 0);
    }

    private static void theLeastBrings() {
        // 1 and 2 come by 0, who can once, though 3 could bring them; so 3 and 4 can't.
        String pairs = "p01;p02;p03;p04;p31;p32;";
        due("he is tired then", withRow(with("d11;d00;d00;d00;d00;" + pairs), 12, 34).judge(), 1);
        due("he can twice", withRow(with("d12;d00;d00;d00;d00;" + pairs), 12, 34).judge(), -9);
        due("he can't at all", withRow(with("d10;d00;d00;d00;d00;" + pairs), 12).judge(), -9);
        WithTheSameOne x = withRow(with("d11;d00;d00;d00;d00;" + pairs), 12);
        x.judge();
        due("in mind", x.count(4), 0);
        due("in mind, the pairs", x.count(1), 6);
        // By TWO 0 and 1 bring 3 and 4, and 1 can once; 2, who could, has not, and so brings with 0.
        String by = "d00;d11;d11;d00;d00;d00;";
        WithTheSameOne two = byTheLaw(1, with(by, "p03;p04;p05;p13;p14;p15;p23;p24;", "p25;"));
        due("by TWO, the second is tired then", withRow(two, 34, 45).judge(), -9);
        due("by TWO, 4 brings with 0 then", withRow(two, 34, 45, 35).judge(), -9);
        WithTheSameOne few = byTheLaw(1, with("d00;d11;d00;d00;d00;p02;p03;p04;p12;p13;p14;"));
        due("by TWO, he is the only second", withRow(few, 23, 34).judge(), 1);
    }

    private static void cousinsByNobody() {
        due("nobody brings", withRow(with("d11;d31;d31;d00;p01;p03;"), 12, 13).judge(), -9);
        due("he brings them, and is tired then", withRow(with("d11;d31;d31;d00;p01;p02;p03;"), 12, 13).judge(), 1);
        due("cousins of two figures", withRow(with("d31;d32;"), 1).judge(), 0);
        WithTheSameOne two = byTheLaw(1, with("d11;d31;d31;d00;d00;p01;p02;p03;p41;p43;"));
        due("by TWO, one who brings them is tired then", withRow(two, 12, 13).judge(), 1);
        WithTheSameOne elder = byTheLaw(2, with("d31;d31;d11;d00;p02;p12;p03;"));
        due("by ELDER, one who does not count", withRow(elder, 1).judge(), -9);
    }

    private static void fromNoLoadToSix() {
        WithTheSameOne x = star("d00;");
        due("an empty row", x.load(), 0);
        int[] ring = {12, 34, 56, 13, 45, 26};
        for (int i = 0; i < 6; i++) {
            x.row(ring[i]);
            due("of " + (i + 1), x.load(), i + 1);
        }
        due("the row stays", x.count(6), 6);
        due("in mind", x.count(1) + x.count(4), 7);
        WithTheSameOne two = plainOnes(8, 2, 3, 4, 5, 6, 7, 12, 13, 14, 15, 16, 17);
        due("each of two once", withRow(two, 23, 45).load(), 1);
        due("three by two", withRow(two, 23, 45, 67).load(), 2);
        due("six by two", withRow(two, 23, 45, 67, 24, 56, 37).load(), 3);
        due("the third by one of the row", withRow(two, 23, 34, 24).load(), 1);
    }

    private static void onlyForThese() {
        WithTheSameOne x = star("d00;");
        x.dance(1, 2, 0);
        x.dance(3, 4, 0);
        due("he has brought before", withRow(x, 56).load(), 1);
        due("twice more", withRow(x, 56, 17).load(), 2);
        due("an empty row", withRow(x).load(), 0);
    }

    private static void cousinsTakeNone() {
        due("six pairs of cousins", withRow(eightCousins(), 1, 2, 3, 4, 5, 6).load(), 0);
        String pairs = "p01;p02;p03;p04;";
        due("he stays fresh", withRow(with("d11;d31;d31;d00;d00;" + pairs), 12, 34).load(), 1);
        due("though by the least he would not", withRow(with("d11;d31;d31;d00;d00;" + pairs), 12, 34).judge(), 1);
        due("cousins of two figures take one", withRow(with("d11;d31;d32;d00;d00;" + pairs), 12).load(), 1);
        due("and then he is tired", withRow(with("d11;d31;d32;d00;d00;" + pairs), 12, 34).load(), -9);
    }

    private static void loadWithKinds() {
        int[] ring = {12, 34, 56, 13, 45, 26};
        due("he can six times", withRow(star("d16;"), ring).load(), 6);
        due("he can five times", withRow(star("d15;"), ring).load(), -9);
        due("proud of 6", withRow(star("d26;"), 12, 34).load(), 2);
        due("proud of 4", withRow(star("d24;"), 12, 34).load(), -9);
        WithTheSameOne before = star("d12;");
        before.dance(1, 2, 0);
        due("he can once more", withRow(before, 34).load(), 1);
        due("he can't twice more", withRow(before, 34, 56).load(), -9);
        // 0 can once, and only he brings 3 and 4; so 1 and 2 must come by 3, who is not the least.
        WithTheSameOne save = with("d11;d00;d00;d00;d00;p01;p02;p03;p04;p31;p32;");
        due("he is spared", withRow(save, 12, 34).load(), 1);
    }

    private static void itCannotBe() {
        WithTheSameOne x = plainOnes(4, 1, 12);
        due("it may not", withRow(x, 3).load(), -9);
        due("it has danced", withRow(x, 1).load(), -9);
        due("it has by then", withRow(x, 2, 20).load(), -9);
        due("one twice", withRow(x, 22).load(), -9);
        due("no such one", withRow(x, 4).load(), -9);
        due("no such first one", withRow(x, 40).load(), -9);
        due("99", withRow(x, 2, 99).load(), -9);
        due("it can", withRow(x, 20).load(), 1);
        x.law(2);
        due("by ELDER it can't", withRow(x, 2).load(), -9);
        due("on a new object", withRow(new WithTheSameOne(), 1).load(), -9);
        due("-9 is no refusal", refused(x), 0);
    }

    private static void noLoadByTwo() {
        WithTheSameOne x = star("d00;");
        due("ONE", withRow(x, 12).load(), 1);
        x.law(2);
        due("ELDER", x.load(), 1);
        x.law(1);
        due("TWO", x.load(), -3);
        x.clear();
        due("TWO, an empty row", x.load(), -3);
        due("count(13)", x.count(13), 2);
        due("TWO, nobody", byTheLaw(1, new WithTheSameOne()).load(), -3);
    }

    private static void fiveCardsAndSix() {
        WithTheSameOne x = withRow(eightCousins(), 1, 2, 3, 4, 5);
        due("five", x.cards(), 120);
        x.row(6);
        due("six", x.cards(), -6);
        due("count(16)", x.count(16), 1);
        due("the row stays", x.count(6), 6);
        x.row(7);
        due("six still, with a refused one", x.cards(), -6);
        x.clear();
        due("none", x.cards(), 1);
        due("six of no pairs", withRow(x, 0, 0, 0, 0, 0, 0).cards(), -6);
    }

    private static void fromNoOrderToAll() {
        int[] all = {1, 1, 2, 6, 24, 120};
        WithTheSameOne x = eightCousins();
        for (int size = 0; size <= 5; size++) {
            due("of " + size, x.cards(), all[size]);
            x.row(size + 1);
            due("none has danced", x.count(1), 0);
        }
        due("of great numbers, turned or not", withRow(x, 76, 10, 35, 52, 64).cards(), 120);
        for (int none : new int[] {0, 11, 77, 88, 99, 8, 80, 9, 90, 78, 87}) {
            due("with " + none, withRow(x, 76, none).cards(), 0);
        }
        WithTheSameOne chain = plainOnes(6, 1, 12, 23, 34, 45);
        due("one order", withRow(chain, 5, 4, 3, 2).cards(), 1);
        due("no order", withRow(chain, 5, 4, 3).cards(), 0);
        due("twice the same", withRow(chain, 2, 20).cards(), 0);
        due("no pair", withRow(chain, 2, 13, 77).cards(), 0);
        due("has danced", withRow(chain, 1).cards(), 0);
        due("-9 and 0 are no refusals", refused(chain), 0);
    }

    private static void fromNoneToSixCleared() {
        WithTheSameOne x = eightCousins();
        due("none", x.clear(), 0);
        withRow(x, 1, 2, 3, 4, 5, 6);
        x.feed('d');
        due("six", x.clear(), 6);
        due("none then", x.count(6), 0);
        due("none again", x.clear(), 0);
        due("judge()", x.judge(), -9);
        due("load()", x.load(), 0);
        due("letters stay", x.count(5), 1);
        due("one", withRow(x, 0).clear(), 1);
        due("the old ones are gone", withRow(x, 1).judge(), -9);
    }

    private static void theLeastAndTheMostTimes() {
        WithTheSameOne x = eightCousins();
        due("seeds(0, 1)", x.seeds(0, 1), -4);
        due("seeds(-1, 1)", x.seeds(-1, 1), -4);
        due("seeds(least int, 1)", x.seeds(LEAST_INT, 1), -4);
        due("seeds(41, 1)", x.seeds(41, 1), -6);
        due("seeds(greatest int, 1)", x.seeds(GREATEST_INT, 1), -6);
        due("count(14)", x.count(14), 3);
        due("count(16)", x.count(16), 2);
        due("seeds(1, 1)", x.seeds(1, 1), drawn(8, 1, 1));
        due("seeds(40, 1)", x.seeds(40, 1), drawn(8, 40, 1));
        due("no refusal more", refused(x), 5);
    }

    private static void noDancers() {
        WithTheSameOne x = new WithTheSameOne();
        due("seeds(1, 0)", x.seeds(1, 0), -3);
        due("seeds(40, 0)", x.seeds(40, 0), -3);
        due("count(13)", x.count(13), 2);
        tell(x, "d00;");
        due("one is there", x.seeds(40, 0), 0);
        due("count(13) still", x.count(13), 2);
    }

    private static void numbersAreToldBeforeState() {
        WithTheSameOne x = new WithTheSameOne();
        due("seeds(0, 0)", x.seeds(0, 0), -4);
        due("seeds(41, 0)", x.seeds(41, 0), -6);
        due("count(13)", x.count(13), 0);
        due("count(14)", x.count(14), 1);
        due("count(16)", x.count(16), 1);
    }

    /** How many unlike pairs are drawn below a number, by numbers that have no end. */
    private static int drawn(int below, int times, int seed) {
        BigInteger wrap = BigInteger.ONE.shiftLeft(32);
        BigInteger half = BigInteger.ONE.shiftLeft(31);
        BigInteger z = BigInteger.valueOf(seed).mod(wrap);
        TreeSet<Integer> pairs = new TreeSet<>();
        int first = -1;
        for (int i = 0; i < 2 * times; i++) {
            z = z.multiply(BigInteger.valueOf(1103515245)).add(BigInteger.valueOf(12345)).mod(wrap);
            int draw = z.mod(half).divide(BigInteger.valueOf(65536)).mod(BigInteger.valueOf(below)).intValue();
            if (i % 2 == 0) {
                first = draw;
            } else if (first != draw) {
                pairs.add(10 * Math.min(first, draw) + Math.max(first, draw));
            }
        }
        return pairs.size();
    }

    private static void seedsWrapAround() {
        int[] seeds = {0, 1, -1, 2, 7, 12345, 1103515245, -1103515245, LEAST_INT, LEAST_INT + 1, GREATEST_INT,
            GREATEST_INT - 1, 1 << 16, 0x40000000, 0xc0000000};
        WithTheSameOne x = eightCousins();
        for (int z : seeds) {
            for (int n : new int[] {1, 2, 3, 5, 10, 20, 39, 40}) {
                due("seeds(" + n + ", " + z + ")", x.seeds(n, z), drawn(8, n, z));
            }
        }
        // Reckoned elsewhere, so that both writings of the draws can't be wrong in one way.
        int[][] known = {{40, 0, 20}, {40, 1, 18}, {40, -1, 21}, {40, GREATEST_INT, 21}, {40, LEAST_INT, 20},
            {40, 7, 20}, {39, 7, 20}, {39, 1, 17}, {1, 0, 1}, {1, 1, 0}, {2, 1, 1}, {5, 7, 4}};
        for (int[] row : known) {
            due("seeds(" + row[0] + ", " + row[1] + ")", x.seeds(row[0], row[1]), row[2]);
        }
        due("a seed whose sign is another's", x.seeds(17, LEAST_INT), x.seeds(17, 0));
    }

    private static void drawsBelowEachNumber() {
        WithTheSameOne x = new WithTheSameOne();
        for (int size = 1; size <= 8; size++) {
            tell(x, "d30;");
            for (int z = -4; z <= 4; z++) {
                due("seeds(4, " + z + ") of " + size, x.seeds(4, z), drawn(size, 4, z));
            }
        }
    }

    private static void twoWhoMay() {
        due("one alone", plainOnes(1).seeds(40, 3), 0);
        due("none may", plainOnes(8).seeds(40, 3), 0);
        due("all have", allBut().seeds(40, 3), 28);
        due("two who have", plainOnes(2, 1).seeds(40, 3), 1);
        due("by TWO none may", byTheLaw(1, plainOnes(4, 1, 12, 23)).seeds(40, 3), 3);
        due("by ONE they may", plainOnes(3, 1, 12).seeds(40, 3), 3);
        due("by ELDER they may not", byTheLaw(2, plainOnes(3, 1, 12)).seeds(40, 3), 2);
    }

    private static void theLeastBringsBySeeds() {
        for (int z = 0; z < 20; z++) {
            // Only 0 brings, and he can once; so exactly one pair more comes, whichever is drawn first.
            due("seeds(40, " + z + ")", with("d11;d10;d10;d10;p01;p02;p03;").seeds(40, z), 4);
            due("he can twice, " + z, with("d12;d10;d10;d10;p01;p02;p03;").seeds(40, z), 5);
            // 0 is spent by the cousins, if they are drawn before 3 and one of them; else by these.
            due("cousins, " + z, with("d11;d31;d31;p01;p02;").seeds(40, z), 3);
        }
    }

    private static void seedsAreInMind() {
        WithTheSameOne x = star("d13;");
        int first = x.seeds(40, 5);
        due("count(1)", x.count(1), 7);
        due("count(4)", x.count(4), 0);
        due("again", x.seeds(40, 5), first);
    }
}
