import java.util.ArrayList;
import java.util.List;
import java.util.function.Supplier;
import java.util.function.ToIntFunction;

/** The boundaries of promises 27 to 29 and of REFUSALS: the image, what is counted, what a refusal changes. */
public final class StateBoundariesTest extends Sentences {
    private static final String CHANGES_NOTHING = "nothing changes but how many there were";

    public static void main(String[] args) {
        Sentences table = new Sentences();
        image(table);
        count(table);
        refusals(table);
        table.end(1, 29);
    }

    private static void image(Sentences table) {
        table.test(27, "THE IMAGE is taken: how many PAIRS have DANCED.", StateBoundariesTest::fromNoPairToAll);
        table.test(27, "THE IMAGE: all that there is", StateBoundariesTest::allThatThereIs);
        table.test(27, "but it, letters, the ROW, REFUSALS", StateBoundariesTest::lettersRowAndRefusalsStay);
        table.test(28, "-3 there is none", StateBoundariesTest::noImage);
        table.test(28, "It is RESTORED: how many PAIRS have DANCED.", StateBoundariesTest::restoredAgainAndAgain);
        table.test(28, "THE IMAGE: all that there is, but it", StateBoundariesTest::fewerAndMoreThanThere);
    }

    private static void count(Sentences table) {
        table.test(29, "-9 for another what", StateBoundariesTest::anotherWhat);
        table.test(29, "0 DANCERS, 1 PAIRS that have DANCED, 2 PAIRS that MAY now, 3 the LAW, 4 all BROUGHT, "
            + "5 letters, 6 in the ROW", StateBoundariesTest::fromNoneToTheMost);
        table.test(29, "11 .. 16 REFUSALS -1 .. -6", StateBoundariesTest::eachRefusalByItsNumber);
        table.test(29, "An object is used for at most 512 calls after it has been made",
            StateBoundariesTest::fiveHundredAndTwelveCalls);
    }

    private static void refusals(Sentences table) {
        for (Refused refused : refusedCalls()) {
            table.test(refused.promise, CHANGES_NOTHING, () -> changesNothing(refused));
        }
        for (Refused refused : callsWithTwoReasons()) {
            table.test(refused.promise, "the call answers the number, the first that fits in the order in which it "
                + "tells them", () -> changesNothing(refused));
        }
        for (int promise : new int[] {1, 3, 10, 15, 22, 25, 27, 29}) {
            table.test(promise, "REFUSALS (the call answers the number", () -> neverRefused(promise));
        }
    }

    private static void fromNoPairToAll() {
        due("nobody", new WithTheSameOne().image(), 0);
        due("none", plainOnes(8).image(), 0);
        due("one", plainOnes(8, 67).image(), 1);
        due("all", allBut().image(), 28);
    }

    private static void allThatThereIs() {
        WithTheSameOne x = byTheLaw(2, with("d12;d59;d30;d00;p01;p02;p03;p13;"));
        x.dance(1, 2, 0);
        x.image();
        x.dance(2, 3, 0);
        x.night();
        x.law(1);
        tell(x, "d40;p04;");
        due("restore()", x.restore(), 5);
        due("dancers", x.count(0), 4);
        due("pairs", x.count(1), 5);
        due("the law", x.count(3), 2);
        due("all brought", x.count(4), 1);
        due("his brought", x.dancer(0, 2), 1);
        due("his partners", x.dancer(0, 3), 3);
        due("a pair since then", x.danced(2, 3), 0);
        int[][] kinds = {{1, 2}, {5, 9}, {3, 0}, {0, 0}};
        for (int i = 0; i < 4; i++) {
            due("kind of " + i, x.dancer(i, 0), kinds[i][0]);
            due("figure of " + i, x.dancer(i, 1), kinds[i][1]);
        }
        due("who came since", x.dancer(4, 0), -1);
    }

    private static void lettersRowAndRefusalsStay() {
        WithTheSameOne x = with("d30;d30;d30;");
        x.feed('l');
        withRow(x, 1);
        x.law(7);
        x.image();
        x.feed('2');
        x.feed(';');
        x.row(12);
        x.row(0);
        x.law(8);
        x.row(-1);
        x.restore();
        due("letters", x.count(5), 3);
        due("the row", x.count(6), 3);
        due("the row as it is", x.judge(), 2);
        due("refusals -2", x.count(12), 2);
        due("refusals -4", x.count(14), 1);
        due("the letters as they are", x.ball(), 1);
        due("the law by these", x.count(3), 2);
        x.clear();
        x.restore();
        due("what is no more stays so", x.count(5) + x.count(6), 0);
    }

    private static void noImage() {
        WithTheSameOne x = plainOnes(3, 1);
        due("none yet", x.restore(), -3);
        due("none still", x.restore(), -3);
        due("count(13)", x.count(13), 2);
        due("nothing has changed", x.count(0) + x.count(1), 4);
        x.image();
        due("now there is one", x.restore(), 1);
        due("count(13) still", x.count(13), 2);
        WithTheSameOne empty = new WithTheSameOne();
        empty.image();
        tell(empty, "d00;d00;p01;l1;");
        due("one of nobody", empty.restore(), 0);
        due("nobody is there", empty.count(0), 0);
        due("the law", empty.count(3), 0);
    }

    private static void restoredAgainAndAgain() {
        WithTheSameOne x = plainOnes(4, 1, 12);
        x.image();
        for (int i = 0; i < 3; i++) {
            due("a dance", x.dance(0, 2, 1), 3);
            due("restored", x.restore(), 2);
            due("he has not brought", x.dancer(1, 2), 0);
        }
        x.dance(0, 2, 1);
        due("another image", x.image(), 3);
        x.night();
        due("it is the last one", x.restore(), 3);
        due("with what was brought", x.count(4), 1);
        due("again", x.restore(), 3);
    }

    private static void fewerAndMoreThanThere() {
        WithTheSameOne x = with("d00;d00;");
        x.image();
        tell(x, "d10;d20;d30;d40;d50;d09;p27;p67;p02;");
        x.restore();
        due("two are there", x.count(0), 2);
        due("none has danced", x.count(1), 0);
        due("partners of 0", x.dancer(0, 3), 0);
        due("2 is not there", x.danced(0, 2), -1);
        tell(x, "d31;");
        due("a new 2", x.dancer(2, 0), 3);
        due("he has danced with none", x.dancer(2, 3), 0);
        WithTheSameOne full = allBut(67);
        full.dance(6, 7, 0);
        full.image();
        WithTheSameOne small = plainOnes(2);
        small.image();
        due("eight again", full.restore(), 28);
        due("another object has its own", small.restore(), 0);
        due("no room", tell(full, "d00;"), -2000);
    }

    private static void anotherWhat() {
        WithTheSameOne x = plainOnes(3, 1);
        for (int what : new int[] {-1, 7, 8, 9, 10, 17, 18, LEAST_INT, GREATEST_INT}) {
            due("count(" + what + ")", x.count(what), -9);
        }
        due("-9 is no refusal", refused(x), 0);
    }

    private static void fromNoneToTheMost() {
        WithTheSameOne x = new WithTheSameOne();
        for (int what = 0; what <= 6; what++) {
            due("count(" + what + ") of none", x.count(what), 0);
        }
        WithTheSameOne full = allBut(67);
        feedAll(full, "d".repeat(64));
        withRow(full, 0, 0, 0, 0, 0, 0);
        full.law(2);
        due("one may", full.count(2), 1);
        full.dance(6, 7, 5);
        int[] most = {8, 28, 0, 2, 1, 64, 6};
        for (int what = 0; what <= 6; what++) {
            due("count(" + what + ") of the most", full.count(what), most[what]);
        }
        due("all may", with("d30;".repeat(8)).count(2), 28);
    }

    private static void eachRefusalByItsNumber() {
        WithTheSameOne x = plainOnes(2, 1);
        int[] counts = new int[7];
        int[] calls = {-1, -2, -2, -3, -3, -3, -4, -4, -6, -6, -6, -6};
        for (int number : calls) {
            due("a refusal", refuse(x, number), number);
            counts[-number]++;
            for (int what = 11; what <= 16; what++) {
                due("count(" + what + ")", x.count(what), counts[what - 10]);
            }
        }
        due("none is -5", x.count(15), 0);
    }

    private static int refuse(WithTheSameOne x, int number) {
        switch (number) {
            case -1:
                return x.worth(2);
            case -2:
                return x.closed(3);
            case -3:
                return x.opens(0, 1);
            case -4:
                return x.feed(-1);
            default:
                return x.row(100);
        }
    }

    private static void fiveHundredAndTwelveCalls() {
        WithTheSameOne x = new WithTheSameOne();
        for (int i = 1; i < 512; i++) {
            x.danced(i, i);
        }
        due("the 512th", x.count(11), 511);
    }

    /** A call that is to be refused on what is made by a supplier. */
    private static final class Refused {
        final int promise;
        final String name;
        final Supplier<WithTheSameOne> made;
        final ToIntFunction<WithTheSameOne> call;
        final int number;

        Refused(int promise, int number, String name, Supplier<WithTheSameOne> made,
            ToIntFunction<WithTheSameOne> call) {
            this.promise = promise;
            this.number = number;
            this.name = name;
            this.made = made;
            this.call = call;
        }
    }

    /** Four of several kinds, some who have brought, an image of before, letters, a row. */
    private static WithTheSameOne some() {
        WithTheSameOne x = with("d13;d31;d31;d00;p01;p03;p13;");
        x.image();
        x.dance(1, 2, 9);
        x.dance(2, 3, 1);
        feedAll(x, "l2;d3");
        return withRow(x, 2, 23);
    }

    /** Some, by the law TWO. */
    private static WithTheSameOne someByTwo() {
        return byTheLaw(1, some());
    }

    /** No dancers, some letters, a row, no image. */
    private static WithTheSameOne none() {
        WithTheSameOne x = new WithTheSameOne();
        feedAll(x, "d00;d00;p01");
        return withRow(x, 1);
    }

    /** No room: eight, all of whom have danced, 64 letters, six in the row. */
    private static WithTheSameOne full() {
        WithTheSameOne x = allBut(67);
        x.image();
        x.dance(6, 7, 5);
        feedAll(x, "l0;".repeat(20) + "p01;");
        return withRow(x, 67, 1, 2, 3, 4, 5);
    }

    private static List<Refused> refusedCalls() {
        List<Refused> calls = new ArrayList<>();
        Supplier<WithTheSameOne> some = StateBoundariesTest::some;
        Supplier<WithTheSameOne> none = StateBoundariesTest::none;
        Supplier<WithTheSameOne> full = StateBoundariesTest::full;
        calls.add(new Refused(2, -4, "feed(-1)", some, x -> x.feed(-1)));
        calls.add(new Refused(2, -6, "feed(256)", some, x -> x.feed(256)));
        calls.add(new Refused(2, -6, "feed('d')", full, x -> x.feed('d')));
        calls.add(new Refused(4, -1, "dancer(4, 0)", some, x -> x.dancer(4, 0)));
        calls.add(new Refused(4, -1, "dancer(-1, 2)", some, x -> x.dancer(-1, 2)));
        calls.add(new Refused(4, -2, "dancer(0, 4)", some, x -> x.dancer(0, 4)));
        calls.add(new Refused(5, -2, "law(3)", some, x -> x.law(3)));
        calls.add(new Refused(5, -2, "law(-1)", some, x -> x.law(-1)));
        calls.add(new Refused(6, -1, "danced(0, 0)", some, x -> x.danced(0, 0)));
        calls.add(new Refused(7, -1, "bringers(0, 4)", some, x -> x.bringers(0, 4)));
        calls.add(new Refused(8, -1, "may(4, 0)", some, x -> x.may(4, 0)));
        calls.add(new Refused(9, -1, "dance(4, 0, 1)", some, x -> x.dance(4, 0, 1)));
        calls.add(new Refused(9, -3, "dance(0, 2, 9)", some, x -> x.dance(0, 2, 9)));
        calls.add(new Refused(9, -3, "dance(0, 2, 2)", some, x -> x.dance(0, 2, 2)));
        calls.add(new Refused(9, -3, "dance(0, 1, 3)", some, x -> x.dance(0, 1, 3)));
        calls.add(new Refused(9, -3, "dance(6, 7, 5)", full, x -> x.dance(6, 7, 5)));
        calls.add(new Refused(11, -1, "ever(4, 3)", some, x -> x.ever(4, 3)));
        calls.add(new Refused(12, -1, "round(3, 3)", some, x -> x.round(3, 3)));
        calls.add(new Refused(13, -2, "closed(3)", some, x -> x.closed(3)));
        calls.add(new Refused(14, -1, "opens(0, 4)", some, x -> x.opens(0, 4)));
        calls.add(new Refused(14, -3, "opens(0, 1)", some, x -> x.opens(0, 1)));
        calls.add(new Refused(16, -2, "fewest(2)", some, x -> x.fewest(2)));
        calls.add(new Refused(17, -1, "wanted(1, 1)", some, x -> x.wanted(1, 1)));
        calls.add(new Refused(18, -1, "off(-1, 1)", some, x -> x.off(-1, 1)));
        calls.add(new Refused(19, -1, "worth(4)", some, x -> x.worth(4)));
        calls.add(new Refused(20, -2, "byLaw(3)", some, x -> x.byLaw(3)));
        calls.add(new Refused(21, -4, "row(-1)", some, x -> x.row(-1)));
        calls.add(new Refused(21, -6, "row(100)", some, x -> x.row(100)));
        calls.add(new Refused(21, -6, "row(1)", full, x -> x.row(1)));
        calls.add(new Refused(23, -3, "load()", StateBoundariesTest::someByTwo, x -> x.load()));
        calls.add(new Refused(24, -6, "cards()", full, x -> x.cards()));
        calls.add(new Refused(26, -4, "seeds(0, 1)", some, x -> x.seeds(0, 1)));
        calls.add(new Refused(26, -6, "seeds(41, 1)", some, x -> x.seeds(41, 1)));
        calls.add(new Refused(26, -3, "seeds(1, 1)", none, x -> x.seeds(1, 1)));
        calls.add(new Refused(28, -3, "restore()", none, x -> x.restore()));
        return calls;
    }

    private static List<Refused> callsWithTwoReasons() {
        List<Refused> calls = new ArrayList<>();
        Supplier<WithTheSameOne> some = StateBoundariesTest::some;
        Supplier<WithTheSameOne> none = StateBoundariesTest::none;
        Supplier<WithTheSameOne> full = StateBoundariesTest::full;
        calls.add(new Refused(2, -4, "feed(-1), no room", full, x -> x.feed(-1)));
        calls.add(new Refused(2, -6, "feed(256), no room", full, x -> x.feed(256)));
        calls.add(new Refused(4, -1, "dancer(4, 4)", some, x -> x.dancer(4, 4)));
        calls.add(new Refused(9, -1, "dance(0, 0, 9)", some, x -> x.dance(0, 0, 9)));
        calls.add(new Refused(9, -1, "dance(0, 8, 77)", full, x -> x.dance(0, 8, 77)));
        calls.add(new Refused(9, -3, "dance(0, 1, 77)", full, x -> x.dance(0, 1, 77)));
        calls.add(new Refused(14, -1, "opens(7, 7)", full, x -> x.opens(7, 7)));
        calls.add(new Refused(14, -1, "opens(7, 8)", full, x -> x.opens(7, 8)));
        calls.add(new Refused(21, -4, "row(-1), no room", full, x -> x.row(-1)));
        calls.add(new Refused(21, -6, "row(100), no room", full, x -> x.row(100)));
        calls.add(new Refused(26, -4, "seeds(0, 1), no dancers", none, x -> x.seeds(0, 1)));
        calls.add(new Refused(26, -6, "seeds(41, 1), no dancers", none, x -> x.seeds(41, 1)));
        return calls;
    }

    /** Two that were made alike answer alike, though one has refused a call, but for how many it has. */
    private static void changesNothing(Refused refused) {
        WithTheSameOne x = refused.made.get();
        WithTheSameOne twin = refused.made.get();
        due(refused.name, refused.call.applyAsInt(x), refused.number);
        for (int what = 11; what <= 16; what++) {
            int more = what - 10 == -refused.number ? 1 : 0;
            due("count(" + what + ") behind " + refused.name, x.count(what), twin.count(what) + more);
        }
        List<Integer> seen = allAnswers(x);
        List<Integer> unchanged = allAnswers(twin);
        for (int i = 0; i < seen.size(); i++) {
            due("answer " + i + " behind " + refused.name, seen.get(i), unchanged.get(i));
        }
    }

    /** What shows the state, that of letters, of the row and of the image, too; it is another one then. */
    private static List<Integer> allAnswers(WithTheSameOne x) {
        List<Integer> answers = new ArrayList<>();
        floor(x, answers);
        for (int pair : allPairs()) {
            answers.add(x.bringers(pair / 10, pair % 10));
            answers.add(x.may(pair / 10, pair % 10));
        }
        answers.add(x.closed(0));
        answers.add(x.closed(2));
        answers.add(x.best());
        answers.add(x.judge());
        answers.add(x.load());
        answers.add(x.cards());
        answers.add(x.seeds(10, 3));
        feedAll(x, "1;");
        answers.add(x.ball());
        floor(x, answers);
        answers.add(x.clear());
        answers.add(x.restore());
        floor(x, answers);
        answers.add(x.night());
        return answers;
    }

    private static void floor(WithTheSameOne x, List<Integer> answers) {
        for (int what = 0; what <= 6; what++) {
            answers.add(x.count(what));
        }
        int there = x.count(0);
        for (int i = 0; i < there; i++) {
            for (int what = 0; what <= 3; what++) {
                answers.add(x.dancer(i, what));
            }
        }
        for (int pair : allPairs()) {
            if (pair % 10 < there) {
                answers.add(x.danced(pair / 10, pair % 10));
            }
        }
    }

    /** A promise that tells no refusals has none, on whatever object. */
    private static void neverRefused(int promise) {
        for (WithTheSameOne x : new WithTheSameOne[] {new WithTheSameOne(), none(), some(), someByTwo(), full()}) {
            int before = refused(x);
            callWithoutRefusals(promise, x);
            due("refusals", refused(x), before);
        }
    }

    private static void callWithoutRefusals(int promise, WithTheSameOne x) {
        switch (promise) {
            case 3:
                x.ball();
                x.ball();
                break;
            case 10:
                x.night();
                break;
            case 15:
                x.best();
                break;
            case 22:
                x.judge();
                break;
            case 25:
                x.clear();
                break;
            case 27:
                x.image();
                break;
            default:
                x.count(LEAST_INT);
                x.count(17);
                break;
        }
    }
}
