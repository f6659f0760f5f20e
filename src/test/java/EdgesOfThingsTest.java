/** Each sentence on things and baskets (terms, promises 1 to 6) that names a boundary case, by itself. */
public final class EdgesOfThingsTest {
    private final Edge edge = new Edge();

    public static void main(String[] args) {
        EdgesOfThingsTest test = new EdgesOfThingsTest();
        test.promise1();
        test.calls();
        test.promise2();
        test.worths();
        test.promise3();
        test.promise4();
        test.promise5();
        test.promise6();
        test.edge.end();
    }

    private void due(String call, int got, int want) {
        edge.due(call, got, want);
    }

    // ---- promise 1

    private void promise1() {
        nothingIsTold();
        nothingStandsInABasket();
        zeroAloneComesOut();
        nothingEnds();
        noPurse();
        noSightNoImage();
        objectsAreApart();
    }

    private void nothingIsTold() {
        edge.sentence("Nothing is sold.");
        EvenPurse x = new EvenPurse();
        for (int what = 0; what < 64; what++) {
            if (what < 2 || what >= 10 && what % 10 < 4) {
                due("told(" + what + ")", x.told(what), 0);
            }
        }
        for (int what = 2; what < 6; what++) {
            due("told(" + what + ")", x.told(what), -1);
        }
    }

    private void nothingStandsInABasket() {
        edge.sentence("a THING that is not sold");
        for (char letter = 'a'; letter <= 'f'; letter++) {
            EvenPurse x = new EvenPurse();
            due("fault() of nothing", x.fault(), Edge.NONE);
            x.say(letter);
            due("fault() of " + letter, x.fault(), 0);
        }
    }

    private void zeroAloneComesOut() {
        edge.sentence("0: by the empty one");
        EvenPurse x = new EvenPurse();
        int[][] rows = {{0, 1, 0}, {1, 0, Edge.NONE}, {999, 0, Edge.NONE}};
        for (int[] row : rows) {
            due("ways(" + row[0] + ")", x.ways(row[0]), row[1]);
            for (int i = -1; i < 6; i++) {
                due("best(" + row[0] + ", " + i + ")", x.best(row[0], i), row[2]);
            }
            due("row(" + row[0] + ")", x.row(row[0]), row[1]);
            due("near(" + row[0] + ", 0)", x.near(row[0], 0), 0);
            due("near(" + row[0] + ", 1)", x.near(row[0], 1), row[2]);
        }
        due("stuck(0, 999, -1)", x.stuck(0, 999, -1), 999);
        due("stuck(0, 0, -1)", x.stuck(0, 0, -1), 0);
        due("stuck(0, 999, 0)", x.stuck(0, 999, 0), 1);
        due("wage(0, 999, 0)", x.wage(0, 999, 0), 0);
        due("wage(0, 999, 1)", x.wage(0, 999, 1), 0);
        due("fits(0, 999, -1)", x.fits(0, 999, -1), 1);
        due("weeks(0, 1)", x.weeks(0, 1), 0);
        due("pins(1)", x.pins(1), 1);
    }

    private void nothingEnds() {
        edge.sentence("Nothing is sold: what there is none of");
        EvenPurse x = new EvenPurse();
        due("endless(0)", x.endless(0), Edge.ENDLESS);
        due("endless(1)", x.endless(1), Edge.ENDLESS);
        due("pins(100)", x.pins(100), Edge.NONE);
        due("weeks(1, 1)", x.weeks(1, 1), Edge.NONE);
        for (int what = 0; what < 2; what++) {
            due("wage(1, 999, " + what + ")", x.wage(1, 999, what), Edge.NONE);
            due("penny(1, 999, " + what + ")", x.penny(1, 999, what), Edge.NONE);
            due("fits(1, 999, " + what + ")", x.fits(1, 999, what), Edge.NONE);
            due("year(0, 1, " + what + ")", x.year(0, 1, what), 0);
        }
    }

    private void noPurse() {
        edge.sentence("there is none, as at first");
        EvenPurse x = new EvenPurse();
        due("together(-1)", x.together(-1), 0);
        for (int purse = 0; purse < 4; purse++) {
            due("together(" + purse + ")", x.together(purse), Edge.UNKNOWN);
            due("pays(" + purse + ", ..)", x.pays(purse, 3 - purse), Edge.UNKNOWN);
        }
        for (int thing = 0; thing < 6; thing++) {
            due("priced(" + thing + ", 0)", x.priced(thing, 0), 1);
            due("priced(" + thing + ", 1)", x.priced(thing, 1), 0);
        }
    }

    private void noSightNoImage() {
        edge.sentence("A new object: no sign, no SIGHT, no IMAGE");
        EvenPurse x = new EvenPurse();
        due("wipe()", x.wipe(), 0);
        due("forget()", x.forget(), 0);
        due("restore(0)", x.restore(0), Edge.STATE);
        due("restore(1)", x.restore(1), Edge.STATE);
        for (int what = 0; what < 3; what++) {
            due("basket(" + what + ")", x.basket(what), 0);
        }
    }

    private void objectsAreApart() {
        edge.sentence("A new object, beside others");
        EvenPurse packed = Edge.State.PACKED.make();
        edge.unchanged("made beside a packed one", new EvenPurse(), Edge.State.NEW.make());
        edge.unchanged("packed beside new ones", packed, Edge.State.PACKED.make());
    }

    private void calls() {
        edge.sentence("An object is used for at most 512 calls");
        EvenPurse x = Edge.twoThings();
        for (int call = 3; call <= 511; call++) {
            int sum = call % 18;
            x.ways(sum);
        }
        due("the 512th call", x.best(17, -1), 32);
    }

    // ---- promise 2

    private void promise2() {
        thingsAToF();
        things0To5();
        prices();
        priceZero();
        stocks();
        stockZero();
        worthsAndLesses();
        unknownFirst();
        aThingAgain();
    }

    private void thingsAToF() {
        edge.sentence("THINGS 0 to 5 (a to f)");
        for (int thing = 0; thing < 6; thing++) {
            for (int letter = 0; letter < 6; letter++) {
                EvenPurse x = Edge.oneThing(thing, 7, 1);
                x.say('a' + letter);
                due("thing " + thing + ", fault() of letter " + letter, x.fault(), thing == letter ? Edge.NONE : 0);
            }
        }
    }

    private void things0To5() {
        edge.sentence("thing: UNKNOWN (there is no such THING)");
        edge.bounds("thing(#, 1, 1, 1, 1)", 0, 5, Edge.UNKNOWN, (x, n) -> x.thing(n, 1, 1, 1, 1));
    }

    private void prices() {
        edge.sentence("PRICE (0 to 99)");
        edge.bounds("thing(0, #, 1, 1, 1)", 0, 99, Edge.OUTSIDE, (x, n) -> x.thing(0, n, 1, 1, 1));
        for (int price = 1; price <= 99; price += 98) {
            EvenPurse x = new EvenPurse();
            due("price " + price, x.thing(3, price, 1, 1, 1), 1);
            due("it comes out", x.ways(price), 1);
            due("told(40)", x.told(40), price);
        }
    }

    private void priceZero() {
        edge.sentence("0: it is not sold, as at first");
        EvenPurse x = new EvenPurse();
        due("thing(2, 0, 9, 99, 0)", x.thing(2, 0, 9, 99, 0), 1);
        due("told(30)", x.told(30), 0);
        due("told(31)", x.told(31), 9);
        due("one basket for 0", x.ways(0), 1);
        due("worth nothing", x.best(0, -1), 0);
        due("nor bought", x.best(0, 2), 0);
        due("no end", x.endless(0), Edge.ENDLESS);
        Edge.say(x, "c");
        due("fault()", x.fault(), 0);
        x.thing(2, 1, 9, 99, 0);
        due("fault() once it is sold", x.fault(), Edge.NONE);
        due("ways(9) once it is sold", x.ways(9), 1);
        x.thing(2, 0, 9, 99, 0);
        due("fault() once it is not sold", x.fault(), 0);
        due("ways(9) once it is not sold", x.ways(9), 0);
    }

    private void stocks() {
        edge.sentence("STOCK (0 to 9; how many there are)");
        edge.bounds("thing(1, 1, #, 1, 1)", 0, 9, Edge.OUTSIDE, (x, n) -> x.thing(1, 1, n, 1, 1));
        EvenPurse x = Edge.oneThing(1, 10, 9);
        due("nine", x.best(90, 1), 9);
        due("ten", x.best(100, 1), Edge.NONE);
        due("ways of nine", x.ways(90), 1);
        due("ways of ten", x.ways(100), 0);
        due("row of nine", x.row(90), 1);
        due("row of ten", x.row(100), 0);
    }

    private void stockZero() {
        edge.sentence("STOCK 0: there are none");
        EvenPurse x = Edge.oneThing(1, 10, 0);
        due("one", x.best(10, 1), Edge.NONE);
        due("ways of one", x.ways(10), 0);
        due("ways of none", x.ways(0), 1);
        Edge.say(x, "b");
        due("fault()", x.fault(), 0);
    }

    private void worthsAndLesses() {
        edge.sentence("WORTH (0 to 99), LESS (0 to 99)");
        edge.bounds("thing(2, 1, 1, #, 1)", 0, 99, Edge.OUTSIDE, (x, n) -> x.thing(2, 1, 1, n, 1));
        edge.bounds("thing(3, 1, 1, 1, #)", 0, 99, Edge.OUTSIDE, (x, n) -> x.thing(3, 1, 1, 1, n));
    }

    private void unknownFirst() {
        edge.sentence("the first of these that fits: UNKNOWN ahead of OUTSIDE");
        int[] noThings = {-1, 6, Edge.LOWEST, Edge.HIGHEST};
        for (int thing : noThings) {
            edge.refused("thing(" + thing + ", 100, ..)", x -> x.thing(thing, 100, 1, 1, 1), Edge.UNKNOWN);
            edge.refused("thing(" + thing + ", .. -1)", x -> x.thing(thing, -1, 10, -1, -1), Edge.UNKNOWN);
        }
    }

    private void aThingAgain() {
        edge.sentence("A THING: 1.");
        EvenPurse x = Edge.twoThings();
        due("the same again", x.thing(0, 4, 2, 10, 3), 1);
        edge.unchanged("told twice", x, Edge.twoThings());
        EvenPurse y = new EvenPurse();
        y.thing(0, 50, 9, 99, 0);
        y.thing(1, 3, 3, 5, 0);
        due("worth of the old one", y.best(50, -1), 99);
        due("another one", y.thing(0, 4, 2, 10, 3), 1);
        edge.unchanged("the last one stands", y, Edge.twoThings());
    }

    // ---- worths

    private void worths() {
        firstIsWhole();
        thingsFall();
        notBelowZero();
        mostWorth();
    }

    private void worth(int worth, int less, int count, int want) {
        EvenPurse x = new EvenPurse();
        x.thing(4, 3, 9, worth, less);
        Edge.say(x, "eeeeeeeee".substring(0, count));
        String told = count + " of worth " + worth + ", less " + less;
        due("basket(1): " + told, x.basket(1), want);
        due("best(.., -1): " + told, x.best(3 * count, -1), want);
    }

    private void firstIsWhole() {
        edge.sentence("the j-th one (j from 0 on) is worth WORTH less j times LESS");
        worth(10, 3, 0, 0);
        worth(10, 3, 1, 10);
        worth(10, 3, 2, 17);
        worth(99, 99, 1, 99);
        worth(0, 99, 1, 0);
    }

    private void thingsFall() {
        edge.sentence("worths that fall");
        worth(99, 0, 9, 891);
        worth(99, 1, 9, 891 - 36);
        worth(9, 1, 9, 45);
        worth(8, 1, 9, 36);
    }

    private void notBelowZero() {
        edge.sentence("0 at least");
        worth(7, 1, 9, 28);
        worth(99, 99, 2, 99);
        worth(99, 99, 3, 99);
        worth(98, 99, 2, 98);
        worth(99, 98, 2, 100);
        worth(99, 98, 3, 100);
        worth(10, 5, 3, 15);
        worth(0, 99, 9, 0);
    }

    private void mostWorth() {
        edge.sentence("the most that a BASKET can be worth");
        EvenPurse x = new EvenPurse();
        for (int thing = 0; thing < 6; thing++) {
            x.thing(thing, 18, 9, 99, 0);
        }
        due("best(972, -1)", x.best(972, -1), 54 * 99);
        due("best(954, -1)", x.best(954, -1), 53 * 99);
    }

    // ---- promises 3 and 4

    private void promise3() {
        signs();
        fortySigns();
        saidOutsideAheadOfFull();
    }

    private void signs() {
        edge.sentence("codes 33 to 126");
        edge.bounds("say(#)", 33, 126, Edge.OUTSIDE, (x, n) -> x.say(n));
        EvenPurse x = new EvenPurse();
        due("say(33)", x.say(33), 1);
        due("say(126)", x.say(126), 2);
    }

    private void fortySigns() {
        edge.sentence("a PAD of up to 40 signs");
        EvenPurse x = Edge.oneThing(0, 1, 9);
        for (int n = 1; n <= 40; n++) {
            due("say(97), how many", x.say(97), n);
        }
        due("the 41st", x.say(97), Edge.FULL);
        due("the 42nd", x.say(98), Edge.FULL);
        due("told(0)", x.told(0), 40);
        edge.refused("say(97)", y -> y.say(97), Edge.FULL, Edge.State.PACKED);
        edge.refused("say(33)", y -> y.say(33), Edge.FULL, Edge.State.PACKED);
        due("wipe()", x.wipe(), 40);
        due("the first one again", x.say(97), 1);
    }

    private void saidOutsideAheadOfFull() {
        edge.sentence("the first of these that fits: OUTSIDE ahead of FULL");
        edge.refused("say(32)", x -> x.say(32), Edge.OUTSIDE, Edge.State.PACKED);
        edge.refused("say(127)", x -> x.say(127), Edge.OUTSIDE, Edge.State.PACKED);
    }

    private void promise4() {
        edge.sentence("Signs go: how many there were.");
        EvenPurse x = Edge.State.BUSY.make();
        due("wipe()", x.wipe(), 5);
        due("wipe() of an empty PAD", x.wipe(), 0);
        due("told(0)", x.told(0), 0);
        due("fault()", x.fault(), Edge.NONE);
        due("basket(2)", x.basket(2), 0);
        due("the things stay", x.told(10), 4);
        due("the sights stay", x.told(1), 2);
        due("the purses stay", x.told(2), 5);
        Edge.say(x, "abdab");
        edge.unchanged("said again", x, Edge.State.BUSY.make());
        EvenPurse y = Edge.State.PACKED.make();
        due("wipe() of a full PAD", y.wipe(), 40);
    }

    // ---- promise 5

    private void promise5() {
        emptyPad();
        noLetter();
        notSold();
        oneTooMany();
        anyOrder();
        firstOfSeveral();
        placesFrom0To39();
    }

    private void fault(String signs, int want) {
        due("fault() of \"" + signs + "\"", Edge.saying(signs).fault(), want);
    }

    private void emptyPad() {
        edge.sentence("THE FAULT; NONE.");
        fault("", Edge.NONE);
        fault("a", Edge.NONE);
        due("of a new object", new EvenPurse().fault(), Edge.NONE);
    }

    private void noLetter() {
        edge.sentence("no letter a to f");
        for (int sign = 33; sign <= 126; sign++) {
            EvenPurse x = new EvenPurse();
            for (int thing = 0; thing < 6; thing++) {
                x.thing(thing, 1, 9, 1, 1);
            }
            x.say(sign);
            due("fault() of " + sign, x.fault(), sign >= 'a' && sign <= 'f' ? Edge.NONE : 0);
        }
        fault("a`", 1);
        fault("fg", 1);
        fault("A", 0);
    }

    private void notSold() {
        edge.sentence("a THING that is not sold");
        fault("c", 0);
        fault("abe", 2);
        fault("ffd", 2);
    }

    private void oneTooMany() {
        edge.sentence("one more than STOCK");
        fault("aa", Edge.NONE);
        fault("aaa", 2);
        fault("bbb", Edge.NONE);
        fault("bbbb", 3);
        fault("fffffffff", Edge.NONE);
        fault("ffffffffff", 9);
        EvenPurse x = Edge.saying("ab");
        x.thing(1, 3, 0, 5, 0);
        due("fault() once there are none", x.fault(), 1);
    }

    private void anyOrder() {
        edge.sentence("letters, in any order");
        String[] orders = {"aabb", "abab", "abba", "baab", "baba", "bbaa"};
        for (String signs : orders) {
            fault(signs, Edge.NONE);
            EvenPurse x = Edge.saying(signs);
            due("basket(0) of " + signs, x.basket(0), 14);
            due("basket(1) of " + signs, x.basket(1), 27);
            due("basket(2) of " + signs, x.basket(2), 4);
        }
        fault("babbaa", 5);
    }

    private void firstOfSeveral() {
        edge.sentence("the place of the first sign that can not stand there");
        fault("aaac", 2);
        fault("caaa", 0);
        fault("a~aa", 1);
        fault("bbabacb", 5);
        fault("bbabab", 5);
    }

    private void placesFrom0To39() {
        edge.sentence("the place (from 0 on)");
        EvenPurse x = new EvenPurse();
        for (int thing = 0; thing < 6; thing++) {
            x.thing(thing, 1, 9, 1, 0);
        }
        Edge.say(x, "abcdefabcdefabcdefabcdefabcdefabcdefabcd");
        due("forty that can stand", x.fault(), Edge.NONE);
        due("basket(2)", x.basket(2), 40);
        x.thing(3, 1, 6, 1, 0);
        due("the fortieth can not", x.fault(), 39);
        x.thing(0, 0, 9, 1, 0);
        due("the first can not", x.fault(), 0);
    }

    // ---- promise 6

    private void promise6() {
        edge.sentence("basket: OUTSIDE.");
        edge.bounds("basket(#)", 0, 2, Edge.OUTSIDE, (x, n) -> x.basket(n));
        emptyBasket();
        basketOfEachThing();
        basketWithAFault();
        basketOutsideAheadOfNo();
        dearestBasket();
    }

    private void emptyBasket() {
        edge.sentence("Of the BASKET on the PAD, when it is empty");
        EvenPurse x = Edge.saying("");
        for (int what = 0; what < 3; what++) {
            due("basket(" + what + ")", x.basket(what), 0);
        }
    }

    private void basketOfEachThing() {
        edge.sentence("what it comes to, its WORTH, how many THINGS: of each THING a to f");
        for (int thing = 0; thing < 6; thing++) {
            EvenPurse x = new EvenPurse();
            x.thing(thing, 60 + thing, 2, 30 + thing, 4);
            x.say('a' + thing);
            x.say('a' + thing);
            due("basket(0) of two of " + thing, x.basket(0), 2 * (60 + thing));
            due("basket(1) of two of " + thing, x.basket(1), 2 * (30 + thing) - 4);
            due("basket(2) of two of " + thing, x.basket(2), 2);
        }
    }

    private void basketWithAFault() {
        edge.sentence("NO: there is a FAULT.");
        String[] signs = {"c", "aaa", "g", "abb!", "ffffffffff"};
        for (String said : signs) {
            for (int what = 0; what < 3; what++) {
                due("basket(" + what + ") of " + said, Edge.saying(said).basket(what), Edge.NO);
            }
        }
        edge.refused("basket(0)", x -> x.basket(0), Edge.NO, Edge.State.PACKED);
        edge.refused("basket(1)", x -> x.basket(1), Edge.NO, Edge.State.PACKED);
        edge.refused("basket(2)", x -> x.basket(2), Edge.NO, Edge.State.PACKED);
        EvenPurse x = Edge.saying("aaa");
        x.thing(0, 4, 3, 10, 3);
        due("basket(1) once the fault has gone", x.basket(1), 21);
    }

    private void basketOutsideAheadOfNo() {
        edge.sentence("the first of these that fits: OUTSIDE ahead of NO");
        edge.refused("basket(3)", x -> x.basket(3), Edge.OUTSIDE, Edge.State.PACKED);
        edge.refused("basket(-1)", x -> x.basket(-1), Edge.OUTSIDE, Edge.State.PACKED);
    }

    private void dearestBasket() {
        edge.sentence("0 what it comes to: above 999, too");
        EvenPurse x = new EvenPurse();
        for (int thing = 0; thing < 6; thing++) {
            x.thing(thing, 99, 9, 99, 0);
        }
        Edge.say(x, "aaaaaaaaabbbbbbbbbcccccccccdddddddddeeee");
        due("basket(0)", x.basket(0), 3960);
        due("basket(1)", x.basket(1), 3960);
        due("basket(2)", x.basket(2), 40);
    }
}
