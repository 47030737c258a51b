/** Each promise by hand: ordinary inputs, the edges that the document names, wrong inputs. */
public final class PromisesTest {
    private static int wrong = 0;
    private static int promise = 0;

    private static void due(String what, int got, int want) {
        if (got != want) {
            wrong++;
            System.out.println("promise " + promise + ": " + what + " answered " + got + ", due is " + want);
        }
    }

    private static int tell(WithTheSameOne x, String text) {
        for (int i = 0; i < text.length(); i++) {
            x.feed(text.charAt(i));
        }
        return x.ball();
    }

    private static WithTheSameOne with(String... balls) {
        WithTheSameOne x = new WithTheSameOne();
        for (String ball : balls) {
            if (tell(x, ball) < 1) {
                wrong++;
                System.out.println("promise " + promise + ": the test's own ball is none: " + ball);
            }
        }
        return x;
    }

    private static void rowOf(WithTheSameOne x, int... pairs) {
        x.clear();
        for (int pair : pairs) {
            x.row(pair);
        }
    }

    /** Five plain ones: 0, 1, 2, 3 in a chain and 4 alone. */
    private static WithTheSameOne chain() {
        return with("d00;d00;d00;d00;d00;p01;p12;p23;");
    }

    public static void main(String[] args) {
        newObject();
        feed();
        ball();
        dancer();
        law();
        danced();
        bringers();
        may();
        dance();
        night();
        ever();
        round();
        closed();
        opens();
        best();
        fewest();
        wanted();
        off();
        worth();
        byLaw();
        row();
        judge();
        load();
        cards();
        clear();
        seeds();
        image();
        restore();
        count();
        refusalsChangeNothing();
        System.out.println(wrong == 0 ? "all answers are as due" : wrong + " answers are not as due");
        if (wrong != 0) {
            System.exit(1);
        }
    }

    private static void newObject() {
        promise = 1;
        WithTheSameOne x = new WithTheSameOne();
        for (int what = 0; what <= 6; what++) {
            due("count(" + what + ")", x.count(what), 0);
        }
        for (int what = 11; what <= 16; what++) {
            due("count(" + what + ")", x.count(what), 0);
        }
        due("dancer", x.dancer(0, 0), -1);
    }

    private static void feed() {
        promise = 2;
        WithTheSameOne x = new WithTheSameOne();
        due("below", x.feed(-1), -4);
        due("far below", x.feed(Integer.MIN_VALUE), -4);
        due("above", x.feed(256), -6);
        due("least", x.feed(0), 1);
        due("greatest", x.feed(255), 2);
        for (int i = 3; i <= 64; i++) {
            due("letter " + i, x.feed('d'), i);
        }
        due("no room", x.feed('d'), -6);
        due("below, without room", x.feed(-1), -4);
        due("letters", x.count(5), 64);
        due("-4", x.count(14), 3);
        due("-6", x.count(16), 2);
    }

    private static void ball() {
        promise = 3;
        WithTheSameOne x = new WithTheSameOne();
        due("empty", x.ball(), -1000);
        String[] lacking = {"d", "d0", "d00", "p", "p0", "l", "l0", "d00;d", "l0;p01"};
        for (String text : lacking) {
            due(text, tell(x, text), -1000 - text.length());
        }
        due("a blank", tell(x, "d00; d00;"), -1004);
        due("only ;", tell(x, ";"), -1000);
        due("no digit", tell(x, "da0;"), -1001);
        due("no second digit", tell(x, "d0/;"), -1002);
        due("behind 9", tell(x, "d0:;"), -1002);
        due("a digit too many", tell(x, "l00;"), -1002);
        due("great letter", tell(x, "D00;"), -1000);
        due("kind 1 goes before kind 2", tell(x, "d60;d00"), -1007);
        due("kind 6", tell(x, "d60;"), -2000);
        due("kind 9, second", tell(x, "l2;d99;"), -2003);
        due("law 3", tell(x, "d00;l3;"), -2004);
        due("one twice", tell(x, "d00;p00;"), -2004);
        due("not there yet", tell(x, "d00;p01;d00;"), -2004);
        due("first of two", tell(x, "d00;p10;l9;"), -2004);
        due("nothing came", x.count(0) + x.count(1) + x.count(3), 0);
        due("letters are no more", x.count(5), 0);
        for (int what = 11; what <= 16; what++) {
            due("no fault is counted", x.count(what), 0);
        }
        due("three", tell(x, "d59;d30;p10;"), 3);
        due("a pair told twice", tell(x, "p01;p10;l2;"), 3);
        due("pairs", x.count(1), 1);
        due("law", x.count(3), 2);
        due("dancers stay", tell(x, "d00;"), 1);
        due("dancers", x.count(0), 3);
        due("no room", tell(x, "d00;d00;d00;d00;d00;d00;"), -2020);
        due("still three", x.count(0), 3);
        due("eight", tell(x, "d00;d00;d00;d00;d00;p07;"), 6);
        due("a ninth", tell(x, "l0;d00;"), -2003);
        due("dancer 8", tell(x, "p08;"), -2000);
        due("law stays", x.count(3), 2);
        due("sixteen", tell(x, "p01;p01;p01;p01;p01;p01;p01;p01;p01;p01;p01;p01;p01;p01;p01;p01;"), 16);
    }

    private static void dancer() {
        promise = 4;
        WithTheSameOne x = with("d00;d19;d27;d30;d41;d52;p01;p02;p12;p45;");
        int[] figures = {0, 9, 7, 0, 1, 2};
        int[] partners = {2, 2, 2, 0, 1, 1};
        for (int i = 0; i < 6; i++) {
            due("kind", x.dancer(i, 0), i);
            due("figure", x.dancer(i, 1), figures[i]);
            due("brought", x.dancer(i, 2), 0);
            due("partners", x.dancer(i, 3), partners[i]);
        }
        tell(x, "p13;");
        x.dance(0, 3, 1);
        due("has brought", x.dancer(1, 2), 1);
        due("has danced with more", x.dancer(3, 3), 2);
        due("nobody", x.dancer(6, 0), -1);
        due("below", x.dancer(-1, 0), -1);
        due("nobody goes first", x.dancer(9, 9), -1);
        due("other", x.dancer(0, 4), -2);
        due("other below", x.dancer(0, -1), -2);
    }

    private static void law() {
        promise = 5;
        WithTheSameOne x = new WithTheSameOne();
        due("to 2", x.law(2), 0);
        due("to 1", x.law(1), 2);
        due("to 1 again", x.law(1), 1);
        due("3", x.law(3), -2);
        due("-1", x.law(-1), -2);
        due("it stays", x.count(3), 1);
        due("to 0", x.law(0), 1);
    }

    private static void wrongTwo(String what, int a, int b, int c, int d) {
        due(what + " one twice", a, -1);
        due(what + " no such other", b, -1);
        due(what + " no such one", c, -1);
        due(what + " below", d, -1);
    }

    private static void danced() {
        promise = 6;
        WithTheSameOne x = chain();
        due("have", x.danced(0, 1), 1);
        due("the other way", x.danced(1, 0), 1);
        due("have not", x.danced(0, 2), 0);
        wrongTwo("danced", x.danced(1, 1), x.danced(0, 5), x.danced(5, 0), x.danced(0, -1));
    }

    private static void bringers() {
        promise = 7;
        WithTheSameOne x = with("d00;d00;d00;d00;p01;p21;p23;p03;");
        due("both", x.bringers(0, 2), 2 + 8);
        due("the other way", x.bringers(2, 0), 2 + 8);
        due("nobody", x.bringers(0, 1), 0);
        x.law(1);
        due("by two", x.bringers(3, 1), 1 + 4);
        x.law(2);
        due("an elder one", x.bringers(1, 3), 1);
        due("no elder one", x.bringers(0, 2), 0);
        tell(x, "p02;l0;");
        due("who have danced", x.bringers(0, 2), 2 + 8);
        wrongTwo("bringers", x.bringers(1, 1), x.bringers(0, 4), x.bringers(4, 0), x.bringers(-1, 0));
        bringersByKinds();
    }

    private static void bringersByKinds() {
        WithTheSameOne tired = with("d00;d00;d10;d11;p02;p12;p03;p13;");
        due("tired 0 never, tired 1 once", tired.bringers(0, 1), 8);
        WithTheSameOne proud = with("d00;d00;d20;d21;d22;d29;p02;p12;p03;p13;p04;p14;p05;p15;");
        due("proud of one, other, himself, no dancer", proud.bringers(0, 1), 16 + 32);
        WithTheSameOne shy = with("d00;d49;d00;d49;d00;d49;p01;p14;p03;p34;p05;p54;p02;");
        due("shy ones next to one of both", shy.bringers(0, 4), 2 + 8 + 32);
        tell(shy, "p23;p25;p12;");
        due("shy one who is next to none", shy.bringers(0, 2), 2 + 8);
        WithTheSameOne spent = with("d40;d00;d00;p01;p02;");
        due("shy and tired", spent.bringers(1, 2), 0);
        WithTheSameOne vain = with("d59;d00;d00;d00;p01;p02;");
        due("vain with two", vain.bringers(1, 2), 0);
        tell(vain, "p03;");
        due("vain with three", vain.bringers(1, 2), 1);
        WithTheSameOne hurt = with("d51;d00;d00;d00;p01;p02;p03;");
        due("vain and proud", hurt.bringers(1, 2), 0);
        due("vain and not hurt", hurt.bringers(2, 3), 1);
        WithTheSameOne cousin = with("d31;d00;d00;p01;p02;");
        due("cousin as a plain one", cousin.bringers(1, 2), 1);
    }

    private static void may() {
        promise = 8;
        WithTheSameOne x = chain();
        due("by one", x.may(0, 2), 1);
        due("the other way", x.may(3, 1), 1);
        due("have danced", x.may(0, 1), 0);
        due("nobody brings", x.may(0, 3), 0);
        x.law(1);
        due("two are wanted", x.may(0, 2), 0);
        tell(x, "p03;");
        due("two are there", x.may(0, 2), 1);
        x.law(2);
        due("no elder", x.may(0, 2), 0);
        due("elder", x.may(1, 3), 1);
        wrongTwo("may", x.may(1, 1), x.may(0, 5), x.may(5, 0), x.may(0, -1));
        WithTheSameOne cousins = with("d31;d31;d32;d01;d11;");
        for (int law = 0; law < 3; law++) {
            cousins.law(law);
            due("cousins anyway", cousins.may(0, 1), 1);
            due("cousins of two figures", cousins.may(0, 2), 0);
            due("one cousin alone", cousins.may(0, 3), 0);
            due("no cousins of one figure", cousins.may(3, 4), 0);
        }
        tell(cousins, "p01;");
        due("cousins who have danced", cousins.may(1, 0), 0);
    }

    private static void dance() {
        promise = 9;
        WithTheSameOne x = chain();
        due("no bringer", x.dance(0, 2, 3), -3);
        due("one of the two", x.dance(0, 2, 0), -3);
        due("nobody", x.dance(0, 2, 9), -3);
        due("8", x.dance(0, 2, 8), -3);
        due("below", x.dance(0, 2, -1), -3);
        due("33, whose bit would be that of 1", x.dance(0, 2, 33), -3);
        due("by 1", x.dance(0, 2, 1), 4);
        due("again", x.dance(0, 2, 1), -3);
        due("brought", x.dancer(1, 2), 1);
        due("two goes first", x.dance(0, 5, 77), -1);
        due("one twice", x.dance(2, 2, 1), -1);
        danceOfTired();
        danceByTwo();
        danceOfCousins();
    }

    private static void danceOfTired() {
        WithTheSameOne x = with("d12;d00;d00;d00;d00;p01;p02;p03;p04;");
        due("first", x.dance(1, 2, 0), 5);
        due("second", x.dance(3, 4, 0), 6);
        due("then he is tired", x.dance(1, 3, 0), -3);
        due("nobody may", x.count(2), 0);
    }

    private static void danceByTwo() {
        WithTheSameOne x = with("d00;d00;d00;d00;d00;p02;p12;p32;", "p04;p14;p34;l1;");
        due("by the greatest", x.dance(2, 4, 3), 7);
        due("he", x.dancer(3, 2), 1);
        due("and the least other", x.dancer(0, 2), 1);
        due("not the middle one", x.dancer(1, 2), 0);
        due("by the least", x.dance(0, 1, 2), 8);
        due("he himself", x.dancer(2, 2), 1);
        due("and 4", x.dancer(4, 2), 1);
        due("all", x.count(4), 4);
        WithTheSameOne one = with("d00;d00;d00;p01;p12;l1;");
        due("one alone does not do", one.dance(0, 2, 1), -3);
        WithTheSameOne elder = with("d00;d00;d00;d00;p10;p12;p30;p32;p13;l2;");
        due("not by a younger one", elder.dance(0, 2, 1), -3);
    }

    private static void danceOfCousins() {
        WithTheSameOne x = with("d31;d31;d31;d00;p03;p13;l1;");
        due("by one alone who brings them", x.dance(0, 1, 3), 3);
        due("he alone", x.count(4), 1);
        due("by nobody", x.dance(2, 1, 9), 4);
        due("nobody brought", x.count(4), 1);
        due("by 0, though others bring", x.dance(2, 0, 9), 5);
        due("no cousins", x.dance(2, 3, 9), -3);
        WithTheSameOne y = with("d31;d32;");
        due("cousins of two figures", y.dance(0, 1, 9), -3);
    }

    private static void night() {
        promise = 10;
        WithTheSameOne x = with("d12;d00;d00;d00;d00;p01;p02;p03;p04;");
        due("nobody yet", x.night(), 0);
        x.dance(1, 2, 0);
        x.dance(1, 3, 0);
        x.dance(2, 3, 1);
        due("two who had, of three dances", x.night(), 2);
        due("none now", x.count(4), 0);
        due("what was danced stays", x.count(1), 7);
        due("the tired one is fresh", x.dance(1, 4, 0), 8);
        due("one", x.night(), 1);
    }

    private static void ever() {
        promise = 11;
        WithTheSameOne x = chain();
        due("now", x.ever(0, 1), 1);
        due("in the end", x.ever(3, 0), 1);
        due("never", x.ever(0, 4), 0);
        x.law(1);
        due("never by two", x.ever(0, 2), 0);
        wrongTwo("ever", x.ever(1, 1), x.ever(0, 5), x.ever(5, 0), x.ever(0, -1));
        WithTheSameOne kinds = with("d10;d20;d40;d50;p01;p12;p23;p30;");
        due("all as plain ones", kinds.ever(0, 2) + kinds.ever(1, 3), 2);
        due("though none may", kinds.may(1, 3), 0);
        WithTheSameOne cousins = with("d31;d31;d32;d00;p13;");
        due("cousins stay", cousins.ever(0, 1), 1);
        due("and bring", cousins.ever(0, 3), 1);
        due("cousins of two figures", cousins.ever(0, 2), 0);
        WithTheSameOne elder = with("d00;d00;d00;p01;p02;l2;");
        due("an elder one", elder.ever(1, 2), 1);
        WithTheSameOne younger = with("d00;d00;d00;p01;p12;l2;");
        due("a younger one", younger.ever(0, 2), 0);
    }

    private static void round() {
        promise = 12;
        WithTheSameOne x = with("d00;d00;d00;d00;d00;d00;d00;p01;p12;p23;p34;p45;");
        int[] rounds = {0, 1, 2, 2, 3, -9};
        for (int i = 1; i <= 6; i++) {
            due("of 0 and " + i, x.round(0, i), rounds[i - 1]);
            due("of " + i + " and 0", x.round(i, 0), rounds[i - 1]);
        }
        wrongTwo("round", x.round(1, 1), x.round(0, 7), x.round(7, 0), x.round(0, -1));
        WithTheSameOne cousins = with("d31;d31;d10;p12;");
        due("cousins first", cousins.round(0, 1), 1);
        due("then others", cousins.round(0, 2), 2);
    }

    private static void closed() {
        promise = 13;
        WithTheSameOne x = chain();
        due("closed", x.closed(0), 6);
        due("last", x.closed(1), 2);
        due("heaps", x.closed(2), 2);
        due("other", x.closed(3), -2);
        due("below", x.closed(-1), -2);
        due("nothing has danced", x.count(1), 3);
        WithTheSameOne none = with("d00;d00;d00;");
        due("none closed", none.closed(0), 0);
        due("no rounds", none.closed(1), 0);
        due("each alone", none.closed(2), 3);
        WithTheSameOne cousins = with("d31;d31;");
        due("cousins close", cousins.closed(0), 1);
        due("cousins' round", cousins.closed(1), 1);
        due("they have not danced yet", cousins.closed(2), 2);
        WithTheSameOne two = with("d00;d00;d00;d00;d00;d00;d00;d00;p07;p71;p16;p62;", "p34;");
        due("three heaps", two.closed(2), 3);
        due("ten and one", two.closed(0), 11);
    }

    private static void opens() {
        promise = 14;
        WithTheSameOne x = chain();
        due("one more heap", x.opens(4, 3), 4);
        due("would come anyway", x.opens(0, 2), 0);
        due("have danced", x.opens(1, 0), -3);
        wrongTwo("opens", x.opens(1, 1), x.opens(0, 5), x.opens(5, 0), x.opens(0, -1));
        x.law(1);
        due("it alone", x.opens(0, 4), 1);
        due("it and another", x.opens(0, 3), 3);
        due("nothing has changed", x.count(1), 3);
    }

    private static void best() {
        promise = 15;
        WithTheSameOne x = chain();
        due("the least of the best", x.best(), 4);
        x.law(1);
        due("by two", x.best(), 3);
        WithTheSameOne full = with("d00;d00;d00;p01;p12;p02;");
        due("all have danced", full.best(), -9);
        due("nobody", new WithTheSameOne().best(), -9);
        due("one alone", with("d00;").best(), -9);
        WithTheSameOne anyway = with("d00;d00;d00;p01;p02;");
        due("opens none", anyway.best(), 12);
        WithTheSameOne later = with("d00;d00;d00;d00;d00;p12;p34;");
        due("two heaps of two", later.best(), 13);
        WithTheSameOne eight = with("d00;d00;d00;d00;d00;d00;d00;d00;p01;p02;p03;p04;p05;p06;p07;",
            "p12;p13;p14;p15;p16;p17;p23;p24;p25;p26;p27;p34;p35;p36;p37;", "p45;p46;p47;p56;p57;");
        due("the greatest pair", eight.best(), 67);
    }

    private static void fewest() {
        promise = 16;
        WithTheSameOne none = with("d00;d00;d00;p01;p12;");
        due("none is wanted", none.fewest(0), 0);
        due("no first", none.fewest(1), -9);
        WithTheSameOne one = chain();
        due("one", one.fewest(0), 1);
        due("the first", one.fewest(1), 4);
        WithTheSameOne two = with("d00;d00;d00;d00;p13;");
        due("two", two.fewest(0), 2);
        due("the first of two", two.fewest(1), 1);
        WithTheSameOne three = with("d00;d00;d00;d00;");
        due("three", three.fewest(0), 3);
        due("the first of three", three.fewest(1), 1);
        WithTheSameOne more = with("d00;d00;d00;d00;d00;");
        due("more", more.fewest(0), -9);
        due("no first of more", more.fewest(1), -9);
        WithTheSameOne elder = with("d00;d00;d00;d00;p12;p13;p23;l2;");
        due("by an elder one", elder.fewest(0), 3);
        due("other", one.fewest(2), -2);
        due("below", one.fewest(-1), -2);
        due("one dancer", with("d00;").fewest(0), 0);
    }

    private static void wanted() {
        promise = 17;
        WithTheSameOne x = with("d00;d00;d00;d00;d00;d00;p01;p12;p23;p34;");
        int[] dances = {0, 1, 2, 3, -9};
        for (int i = 1; i <= 5; i++) {
            due("0 and " + i, x.wanted(0, i), dances[i - 1]);
        }
        wrongTwo("wanted", x.wanted(1, 1), x.wanted(0, 6), x.wanted(6, 0), x.wanted(0, -1));
        WithTheSameOne tooFar = with("d00;d00;d00;d00;d00;d00;p01;p12;p23;p34;p45;");
        due("four", tooFar.wanted(0, 5), -9);
        due("three", tooFar.wanted(5, 1), 3);
        WithTheSameOne tired = with("d00;d11;d00;d00;p01;p12;p23;p13;");
        due("the tired one once", tired.wanted(0, 3), 1);
        WithTheSameOne only = with("d00;d11;d11;d00;p01;p12;p23;");
        due("each of them once", only.wanted(0, 3), 2);
        WithTheSameOne spent = with("d00;d11;d10;d00;p01;p12;p23;");
        due("1 brings 0 and 2, who cannot", spent.wanted(0, 3), -9);
        WithTheSameOne vain = with("d59;d00;d00;d31;d31;d00;p01;p02;p34;p14;");
        due("the vain one gets a third", vain.wanted(1, 2), 2);
        WithTheSameOne cousins = with("d31;d31;d00;p12;");
        due("by nobody, then by the cousin", cousins.wanted(0, 2), 2);
        due("nothing has changed", cousins.count(1), 1);
        WithTheSameOne last = with("d00;d00;d00;d00;d00;d00;d24;d00;p46;p47;p56;");
        due("by the greatest pair", last.wanted(5, 7), 2);
        WithTheSameOne choice = with("d00;d11;d11;d00;d00;p01;p02;p13;p23;p14;");
        due("by whom one likes", choice.wanted(3, 4), 1);
        due("one saves the tired one", choice.wanted(0, 4), 1);
    }

    private static void off() {
        promise = 18;
        WithTheSameOne x = chain();
        due("danced, alone", x.off(0, 1), 1);
        due("would dance", x.off(3, 0), 1);
        due("never anyway", x.off(0, 4), 0);
        wrongTwo("off", x.off(1, 1), x.off(0, 5), x.off(5, 0), x.off(0, -1));
        due("nothing has changed", x.count(1), 3);
        WithTheSameOne ring = with("d00;d00;d00;d00;p01;p12;p23;p30;");
        due("two ways", ring.off(0, 2), 2);
        due("itself and one of the other way", ring.off(0, 1), 2);
        WithTheSameOne full = with("d00;d00;d00;d00;p01;p02;p03;p12;p13;p23;");
        due("three ways", full.off(0, 1), -9);
        due("by two", byLaw(full, 1).off(0, 1), 2);
        due("by an elder one: 0 has none", byLaw(full, 2).off(0, 1), 1);
        WithTheSameOne cousins = with("d31;d31;d00;p01;");
        due("cousins always", cousins.off(0, 1), -9);
        due("cousin and stranger", cousins.off(0, 2), 0);
    }

    private static WithTheSameOne byLaw(WithTheSameOne x, int law) {
        x.law(law);
        return x;
    }

    private static void worth() {
        promise = 19;
        WithTheSameOne x = chain();
        due("1", x.worth(1), 2);
        due("2", x.worth(2), 2);
        due("0", x.worth(0), 0);
        due("4", x.worth(4), 0);
        due("nobody", x.worth(5), -1);
        due("below", x.worth(-1), -1);
        WithTheSameOne star = with("d10;d00;d00;d00;p01;p02;p03;");
        due("a tired star as a plain one", star.worth(0), 3);
        WithTheSameOne cousins = with("d31;d31;d31;d00;p03;p13;");
        due("cousins come anyway", cousins.worth(3), 0);
    }

    private static void byLaw() {
        promise = 20;
        WithTheSameOne x = with("d00;d00;d00;d00;p01;p12;p23;p30;");
        due("one", x.byLaw(0), 6);
        due("two", x.byLaw(1), 6);
        due("elder", x.byLaw(2), 5);
        due("3", x.byLaw(3), -2);
        due("-1", x.byLaw(-1), -2);
        due("the law stays", x.count(3), 0);
        WithTheSameOne y = chain();
        y.law(2);
        due("one, not the law", y.byLaw(0), 6);
        due("two, not the law", y.byLaw(1), 3);
        due("elder, the law", y.byLaw(2), 3);
    }

    private static void row() {
        promise = 21;
        WithTheSameOne x = new WithTheSameOne();
        due("below", x.row(-1), -4);
        due("above", x.row(100), -6);
        due("least", x.row(0), 1);
        due("greatest", x.row(99), 2);
        for (int i = 3; i <= 6; i++) {
            due("more", x.row(12), i);
        }
        due("no room", x.row(12), -6);
        due("below without room", x.row(-1), -4);
        due("in the row", x.count(6), 6);
    }

    private static void judge() {
        promise = 22;
        WithTheSameOne x = chain();
        due("an empty row", x.judge(), -9);
        rowOf(x, 2, 13, 30);
        due("well", x.judge(), -9);
        due("the row stays", x.count(6), 3);
        due("in mind only", x.count(1) + x.count(4), 3);
        rowOf(x, 3);
        due("may not", x.judge(), 0);
        rowOf(x, 2, 20);
        due("has danced by then", x.judge(), 1);
        rowOf(x, 2, 10);
        due("has danced", x.judge(), 1);
        rowOf(x, 2, 13, 5);
        due("who is not there", x.judge(), 2);
        rowOf(x, 2, 33);
        due("one twice", x.judge(), 1);
        rowOf(x, 99);
        due("99", x.judge(), 0);
        judgeByKinds();
    }

    private static void judgeByKinds() {
        WithTheSameOne tired = with("d11;d00;d00;d00;d00;p01;p02;p03;p32;p31;p14;");
        rowOf(tired, 12, 4);
        due("the least brings, though another could", tired.judge(), -9);
        WithTheSameOne spent = with("d11;d00;d00;d00;d00;p01;p02;p03;p31;p32;p04;");
        rowOf(spent, 12, 34);
        due("then he is tired", spent.judge(), 1);
        WithTheSameOne two = with("d00;d11;d11;d00;d00;p01;p02;p31;p32;p41;p42;l1;");
        rowOf(two, 3, 34);
        due("both are tired", two.judge(), 1);
        WithTheSameOne cousins = with("d11;d31;d31;d00;p01;p02;p03;");
        rowOf(cousins, 12, 13);
        due("cousins by the least who brings them", cousins.judge(), 1);
        WithTheSameOne alone = with("d11;d31;d31;d00;p01;p03;");
        rowOf(alone, 12, 13, 23);
        due("cousins by nobody, then by others", alone.judge(), -9);
    }

    private static void load() {
        promise = 23;
        WithTheSameOne x = chain();
        due("an empty row", x.load(), 0);
        rowOf(x, 2, 13);
        due("each once", x.load(), 1);
        rowOf(x, 2, 13, 3);
        due("one twice", x.load(), 2);
        rowOf(x, 3);
        due("it can't be", x.load(), -9);
        rowOf(x, 2, 2);
        due("danced by then", x.load(), -9);
        rowOf(x, 55);
        due("no pair", x.load(), -9);
        x.law(1);
        due("by two", x.load(), -3);
        x.clear();
        due("by two, empty", x.load(), -3);
        x.law(2);
        rowOf(x, 2);
        due("no elder", x.load(), -9);
        due("in mind only", x.count(4), 0);
        WithTheSameOne before = with("d00;d00;d00;d00;d00;p01;p02;p03;p04;");
        before.dance(1, 2, 0);
        before.dance(1, 3, 0);
        rowOf(before, 14);
        due("only for these", before.load(), 1);
        WithTheSameOne spread = with("d00;d00;d00;d00;d00;p02;p12;p03;p13;p04;p14;");
        rowOf(spread, 23, 34);
        due("spread over two", spread.load(), 1);
        rowOf(spread, 23, 34, 24);
        due("three over two or 3", spread.load(), 1);
        WithTheSameOne tired = with("d11;d00;d00;d00;d00;p01;p02;p03;p04;");
        rowOf(tired, 12, 34);
        due("too tired", tired.load(), -9);
        WithTheSameOne cousins = with("d31;d31;d00;p02;p12;");
        rowOf(cousins, 1);
        due("cousins take none", cousins.load(), 0);
        WithTheSameOne save = with("d11;d00;d00;d00;d00;p01;p02;p31;p32;p04;");
        rowOf(save, 12, 14);
        due("by another than the least", save.load(), 1);
    }

    private static void cards() {
        promise = 24;
        WithTheSameOne x = chain();
        due("an empty row", x.cards(), 1);
        rowOf(x, 2, 13, 30);
        due("four of six", x.cards(), 4);
        rowOf(x, 2, 20);
        due("a pair twice", x.cards(), 0);
        rowOf(x, 2, 44);
        due("no pair", x.cards(), 0);
        WithTheSameOne star = with("d00;d00;d00;d00;d00;d00;p01;p02;p03;p04;p05;");
        rowOf(star, 12, 23, 34, 45, 51);
        due("all orders of five", star.cards(), 120);
        star.row(13);
        due("more than five", star.cards(), -6);
        due("in mind only", star.count(1), 5);
        WithTheSameOne tired = with("d12;d00;d00;d00;p01;p02;p03;");
        rowOf(tired, 12, 13);
        due("twice", tired.cards(), 2);
        rowOf(tired, 12, 13, 23);
        due("the third by another, whichever", tired.cards(), 6);
    }

    private static void clear() {
        promise = 25;
        WithTheSameOne x = chain();
        due("none", x.clear(), 0);
        rowOf(x, 3, 3, 3);
        due("three", x.clear(), 3);
        due("none then", x.count(6), 0);
        due("and -9", x.judge(), -9);
        due("again from one", x.row(2), 1);
        due("well", x.judge(), -9);
    }

    private static void seeds() {
        promise = 26;
        WithTheSameOne x = new WithTheSameOne();
        due("no dancers", x.seeds(1, 0), -3);
        due("below goes first", x.seeds(0, 0), -4);
        due("above goes first", x.seeds(41, 0), -6);
        due("far below", x.seeds(Integer.MIN_VALUE, 0), -4);
        WithTheSameOne alone = with("d00;");
        due("one alone", alone.seeds(40, 5), 0);
        WithTheSameOne three = with("d00;d00;d00;p01;p12;");
        for (int z = -3; z <= 3; z++) {
            for (int n = 1; n <= 40; n++) {
                due("seeds(" + n + ", " + z + ")", three.seeds(n, z), drawn(n, z) ? 3 : 2);
            }
        }
        due("in mind only", three.count(1), 2);
    }

    /** Whether 0 and 2 are drawn together within n times; only they are wanting. */
    private static boolean drawn(int n, int seed) {
        long z = seed;
        for (int i = 0; i < n; i++) {
            z = (z * 1103515245L + 12345L) & 0xffffffffL;
            long one = (z & 0x7fffffffL) / 65536 % 3;
            z = (z * 1103515245L + 12345L) & 0xffffffffL;
            long other = (z & 0x7fffffffL) / 65536 % 3;
            if (one + other == 2 && one != other) {
                return true;
            }
        }
        return false;
    }

    private static void image() {
        promise = 27;
        WithTheSameOne x = new WithTheSameOne();
        due("of nothing", x.image(), 0);
        due("of nothing again", x.restore(), 0);
        WithTheSameOne y = chain();
        due("three pairs", y.image(), 3);
        y.dance(0, 2, 1);
        due("another", y.image(), 4);
        y.dance(1, 3, 2);
        due("the last one counts", y.restore(), 4);
    }

    private static void restore() {
        promise = 28;
        WithTheSameOne x = with("d12;d00;d00;p01;p02;");
        due("there is none", x.restore(), -3);
        x.dance(1, 2, 0);
        x.image();
        x.night();
        tell(x, "d31;d31;p34;l2;");
        x.feed('x');
        x.row(7);
        due("pairs", x.restore(), 3);
        due("dancers", x.count(0), 3);
        due("law", x.count(3), 0);
        due("brought", x.count(4), 1);
        due("letters stay", x.count(5), 1);
        due("the row stays", x.count(6), 1);
        due("refusals stay", x.count(13), 1);
        x.ball();
        tell(x, "d10;p03;");
        due("a new one has no old pairs", x.dancer(3, 3), 1);
        due("again", x.restore(), 3);
        due("kind", x.dancer(0, 0), 1);
        due("figure", x.dancer(0, 1), 2);
        due("nobody more", x.dancer(3, 0), -1);
    }

    private static void count() {
        promise = 29;
        WithTheSameOne x = chain();
        due("dancers", x.count(0), 5);
        due("pairs", x.count(1), 3);
        due("may", x.count(2), 2);
        x.law(1);
        due("may by two", x.count(2), 0);
        due("law", x.count(3), 1);
        x.law(0);
        x.dance(0, 2, 1);
        x.dance(1, 3, 2);
        x.dance(0, 3, 2);
        due("brought", x.count(4), 3);
        x.feed('d');
        x.feed('d');
        due("letters", x.count(5), 2);
        x.row(1);
        due("row", x.count(6), 1);
        for (int what : new int[] {-1, 7, 8, 9, 10, 17, Integer.MIN_VALUE, Integer.MAX_VALUE}) {
            due("another what", x.count(what), -9);
        }
        x.danced(0, 0);
        x.law(7);
        x.law(8);
        x.restore();
        x.feed(-1);
        x.feed(256);
        x.row(100);
        x.seeds(41, 1);
        int[] refusals = {1, 2, 1, 1, 0, 3};
        for (int i = 0; i < 6; i++) {
            due("refusals " + (-1 - i), x.count(11 + i), refusals[i]);
        }
    }

    private static void refusalsChangeNothing() {
        promise = 0;
        WithTheSameOne x = with("d12;d31;d31;d00;p01;p03;p13;");
        x.dance(1, 2, 9);
        rowOf(x, 2, 23);
        x.feed('l');
        x.image();
        int[] before = state(x);
        int[] answers = {x.feed(-1), x.feed(256), x.dancer(4, 0), x.dancer(0, 4), x.law(3), x.danced(0, 0),
            x.bringers(4, 0), x.may(0, 4), x.dance(0, 0, 1), x.dance(0, 2, 9), x.ever(0, 8), x.round(0, 0),
            x.closed(9), x.opens(0, 0), x.opens(0, 1), x.fewest(7), x.wanted(1, 1), x.off(1, 1), x.worth(4),
            x.byLaw(3), x.row(-1), x.row(100), x.seeds(0, 1), x.seeds(41, 1)};
        for (int answer : answers) {
            if (answer >= 0 || answer < -6) {
                due("a refusal", answer, -1);
            }
        }
        int[] after = state(x);
        for (int i = 0; i < before.length; i++) {
            due("state " + i, after[i], before[i]);
        }
        int refused = 0;
        for (int what = 11; what <= 16; what++) {
            refused += x.count(what);
        }
        due("refusals", refused, answers.length);
        for (int i = 0; i < before.length; i++) {
            x.judge();
            x.load();
            x.cards();
            x.best();
            x.fewest(0);
            x.wanted(0, 2);
            x.off(0, 1);
            x.worth(0);
            x.byLaw(1);
            x.seeds(40, i);
        }
        int[] asked = state(x);
        for (int i = 0; i < before.length; i++) {
            due("asking changes nothing " + i, asked[i], before[i]);
        }
    }

    private static int[] state(WithTheSameOne x) {
        int[] state = new int[7 + 16 + 16];
        for (int i = 0; i < 7; i++) {
            state[i] = x.count(i);
        }
        for (int i = 0; i < 16; i++) {
            state[7 + i] = x.dancer(i / 4, i % 4);
            if (i / 4 != i % 4) {
                state[23 + i] = x.danced(i / 4, i % 4);
            }
        }
        return state;
    }
}
