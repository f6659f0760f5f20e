/** Each sentence on sights, rows, years and images (terms, promises 20 to 27) that names a boundary case, by itself. */
public final class EdgesOfSightsTest {
    private final Edge edge = new Edge();

    public static void main(String[] args) {
        EdgesOfSightsTest test = new EdgesOfSightsTest();
        test.promise20();
        test.promise21();
        test.promise22();
        test.promise23();
        test.promise24();
        test.promise25();
        test.promise26();
        test.promise27();
        test.edge.end();
    }

    private void due(String call, int got, int want) {
        edge.due(call, got, want);
    }

    // ---- promise 20

    private void promise20() {
        edge.sentence("seen: UNKNOWN");
        edge.bounds("seen(#, 1, 1)", 0, 5, Edge.UNKNOWN, (x, n) -> x.seen(n, 1, 1));
        edge.sentence("OUTSIDE: n 0 to 9, how");
        edge.bounds("seen(1, #, 1)", 0, 9, Edge.OUTSIDE, (x, n) -> x.seen(1, n, 1));
        edge.bounds("seen(1, 1, #)", 0, 1, Edge.OUTSIDE, (x, n) -> x.seen(1, 1, n));
        sixSights();
        seenRefusedInTurn();
        sightsOfWhatIsNotSold();
    }

    private void sixSights() {
        edge.sentence("SIGHTS, 6 at most: A SIGHT more: how many. FULL.");
        EvenPurse x = Edge.twoThings();
        for (int n = 1; n <= 6; n++) {
            due("seen(0, 0, 0), how many", x.seen(0, 0, 0), n);
            due("told(1)", x.told(1), n);
        }
        due("the seventh", x.seen(0, 0, 0), Edge.FULL);
        due("told(1)", x.told(1), 6);
        edge.refused("seen(0, 0, 0)", y -> y.seen(0, 0, 0), Edge.FULL, Edge.State.PACKED);
        edge.refused("seen(5, 9, 1)", y -> y.seen(5, 9, 1), Edge.FULL, Edge.State.PACKED);
        due("the seventh does not count", x.fits(0, 999, -1), 4);
        due("forget()", x.forget(), 6);
        due("the first again", x.seen(0, 0, 0), 1);
    }

    private void seenRefusedInTurn() {
        edge.sentence("the first of these that fits: UNKNOWN ahead of OUTSIDE and FULL");
        edge.refused("seen(6, 10, 2)", x -> x.seen(6, 10, 2), Edge.UNKNOWN);
        edge.refused("seen(-1, -1, -1)", x -> x.seen(-1, -1, -1), Edge.UNKNOWN);
        edge.refused("seen(6, 1, 0)", x -> x.seen(6, 1, 0), Edge.UNKNOWN, Edge.State.PACKED);
        edge.sentence("the first of these that fits: OUTSIDE ahead of FULL");
        edge.refused("seen(1, 10, 0)", x -> x.seen(1, 10, 0), Edge.OUTSIDE, Edge.State.PACKED);
        edge.refused("seen(1, 1, 2)", x -> x.seen(1, 1, 2), Edge.OUTSIDE, Edge.State.PACKED);
    }

    private void sightsOfWhatIsNotSold() {
        edge.sentence("a SIGHT of a THING that is not sold is taken");
        EvenPurse x = new EvenPurse();
        due("seen(5, 9, 1)", x.seen(5, 9, 1), 1);
        due("seen(0, 0, 0)", x.seen(0, 0, 0), 2);
    }

    // ---- promise 21

    private void promise21() {
        edge.sentence("SIGHTS go: how many there were.");
        EvenPurse x = Edge.State.PACKED.make();
        due("forget() of six", x.forget(), 6);
        due("forget() of none", x.forget(), 0);
        due("told(1)", x.told(1), 0);
        due("the signs stay", x.told(0), 40);
        due("the purses stay", x.told(2), 999);
        due("the things stay", x.told(10), 5);
        for (int thing = 0; thing < 6; thing++) {
            x.seen(thing, 0, thing % 2);
        }
        edge.unchanged("seen again", x, Edge.State.PACKED.make());
        EvenPurse y = Edge.twoThings();
        y.seen(0, 1, 0);
        y.seen(1, 9, 0);
        y.forget();
        y.seen(0, 2, 0);
        due("what is forgotten does not count", y.fits(0, 999, -1), 4);
    }

    // ---- promise 22

    private void promise22() {
        edge.sentence("fits: OUTSIDE.");
        edge.bounds("fits(#, 999, -1)", 0, 999, Edge.OUTSIDE, (x, n) -> x.fits(n, 999, -1));
        edge.bounds("fits(0, #, -1)", 0, 999, Edge.OUTSIDE, (x, n) -> x.fits(0, n, -1));
        edge.sentence("fits: a span that ends ahead of its beginning");
        edge.refused("fits(1, 0, -1)", x -> x.fits(1, 0, -1), Edge.OUTSIDE);
        edge.refused("fits(999, 998, 0)", x -> x.fits(999, 998, 0), Edge.OUTSIDE);
        edge.refused("fits(999, 0, -2)", x -> x.fits(999, 0, -2), Edge.OUTSIDE);
        edge.refused("fits(-1, 1000, -2)", x -> x.fits(-1, 1000, -2), Edge.OUTSIDE);
        noSights();
        spansOfFits();
        noSuchFit();
        justSoMany();
        moreThanThese();
        allSights();
        stuckNeverFits();
        ofTheBestBasket();
    }

    private void noSights() {
        edge.sentence("FITS where there is no SIGHT: all SUMS of a span that COME OUT");
        EvenPurse x = Edge.twoThings();
        int[] out = {0, 3, 4, 6, 7, 8, 9, 10, 11, 13, 14, 17};
        due("fits(0, 999, -1)", x.fits(0, 999, -1), 12);
        for (int i = 0; i < out.length; i++) {
            due("fits(0, 999, " + i + ")", x.fits(0, 999, i), out[i]);
        }
    }

    private void spansOfFits() {
        edge.sentence("SUMS of a span: how many (i = -1), the i-th");
        EvenPurse x = Edge.twoThings();
        x.seen(0, 1, 0);
        int[][] rows = {{4, 4, -1, 1}, {4, 4, 0, 4}, {3, 3, -1, 0}, {0, 0, -1, 0}, {4, 13, -1, 4}, {5, 12, -1, 2},
            {5, 12, 0, 7}, {5, 12, 1, 10}, {4, 12, -1, 3}, {5, 13, -1, 3}, {13, 13, 0, 13}, {14, 999, -1, 0}};
        for (int[] row : rows) {
            due("fits(" + row[0] + ", " + row[1] + ", " + row[2] + ")", x.fits(row[0], row[1], row[2]), row[3]);
        }
        EvenPurse y = new EvenPurse();
        for (int thing = 0; thing < 3; thing++) {
            y.thing(thing, 37, 9, 0, 0);
        }
        y.seen(0, 9, 0);
        due("fits(0, 999, 0)", y.fits(0, 999, 0), 999);
        due("fits(999, 999, -1)", y.fits(999, 999, -1), 1);
        due("fits(0, 998, -1)", y.fits(0, 998, -1), 0);
    }

    private void noSuchFit() {
        edge.sentence("fits: NONE: there is no such one (i below -1, too)");
        EvenPurse x = Edge.twoThings();
        x.seen(0, 1, 0);
        int[] places = {-2, -3, 4, 5, Edge.LOWEST, Edge.HIGHEST};
        for (int i : places) {
            due("fits(0, 999, " + i + ")", x.fits(0, 999, i), Edge.NONE);
        }
        due("fits(0, 999, 3), the last one", x.fits(0, 999, 3), 13);
        due("fits(0, 12, 3)", x.fits(0, 12, 3), Edge.NONE);
        due("fits(3, 3, 0)", x.fits(3, 3, 0), Edge.NONE);
        due("fits(5, 5, 0)", x.fits(5, 5, 0), Edge.NONE);
    }

    /** How many of the sums 0, 7, 14 .. 63 have just so many, or more. */
    private void sights(int thing, int n, int how, int first, int many) {
        EvenPurse x = Edge.oneThing(thing, 7, 9);
        x.seen(thing, n, how);
        due("fits(0, 999, -1) of " + n + ", how " + how, x.fits(0, 999, -1), many);
        due("fits(0, 999, 0) of " + n + ", how " + how, x.fits(0, 999, 0), first);
        due("fits(0, 999, last) of " + n + ", how " + how, x.fits(0, 999, many), Edge.NONE);
    }

    private void justSoMany() {
        edge.sentence("just so many of a THING (how 0)");
        for (int thing = 0; thing < 6; thing++) {
            for (int n = 0; n <= 9; n++) {
                sights(thing, n, 0, 7 * n, 1);
            }
        }
    }

    private void moreThanThese() {
        edge.sentence("or more than these (1)");
        for (int thing = 0; thing < 6; thing++) {
            for (int n = 0; n < 9; n++) {
                sights(thing, n, 1, 7 * n + 7, 9 - n);
            }
            sights(thing, 9, 1, Edge.NONE, 0);
        }
    }

    private void allSights() {
        edge.sentence("whose BEST BASKETS hold all SIGHTS");
        for (int odd = 0; odd < 6; odd++) {
            EvenPurse x = Edge.twoThings();
            for (int sight = 0; sight < 6; sight++) {
                x.seen(0, sight == odd ? 2 : 0, sight == odd ? 0 : 1);
            }
            due("fits(0, 999, -1), the " + odd + "-th is another one", x.fits(0, 999, -1), 4);
            due("fits(0, 999, 0)", x.fits(0, 999, 0), 8);
        }
        EvenPurse x = Edge.twoThings();
        x.seen(0, 1, 0);
        x.seen(0, 2, 0);
        due("none holds both", x.fits(0, 999, -1), 0);
        EvenPurse y = Edge.twoThings();
        y.seen(0, 0, 1);
        y.seen(1, 2, 1);
        due("of two things", y.fits(0, 999, -1), 2);
        due("of two things", y.fits(0, 999, 0), 13);
        due("of two things", y.fits(0, 999, 1), 17);
    }

    private void stuckNeverFits() {
        edge.sentence("SUMS of a span that COME OUT");
        EvenPurse x = Edge.twoThings();
        x.seen(0, 0, 0);
        x.seen(5, 0, 0);
        due("fits(0, 999, -1)", x.fits(0, 999, -1), 4);
        due("fits(5, 5, -1)", x.fits(5, 5, -1), 0);
        due("fits(18, 999, -1)", x.fits(18, 999, -1), 0);
        EvenPurse y = new EvenPurse();
        y.seen(3, 0, 0);
        due("where nothing is sold 0 fits", y.fits(0, 999, -1), 1);
        due("where nothing is sold 0 fits", y.fits(0, 999, 0), 0);
        y.seen(3, 0, 1);
        due("but not with one of a thing", y.fits(0, 999, -1), 0);
    }

    private void ofTheBestBasket() {
        edge.sentence("in the BEST BASKET of a SUM");
        EvenPurse x = new EvenPurse();
        x.thing(0, 2, 1, 0, 0);
        x.thing(1, 1, 2, 0, 0);
        x.seen(0, 1, 0);
        due("2 by two of thing 1", x.fits(2, 2, -1), 0);
        x.thing(0, 2, 1, 1, 0);
        due("2 by one of thing 0", x.fits(2, 2, -1), 1);
    }

    // ---- promise 23

    private void promise23() {
        edge.sentence("row: OUTSIDE.");
        edge.bounds("row(#)", 0, 999, Edge.OUTSIDE, (x, n) -> x.row(n));
        shops();
        partsFrom0On();
        partsNotBaskets();
        rowUpTo999();
    }

    private void shops() {
        edge.sentence("a shop that sells THINGS 0 to 2 alone, then one that sells 3 to 5 alone");
        for (int one = 0; one < 6; one++) {
            for (int other = 0; other < 6; other++) {
                EvenPurse x = Edge.oneThing(one, 5, 1);
                x.thing(other, 5, 1, 0, 0);
                boolean apart = one / 3 != other / 3;
                due("row(5) of " + one + " and " + other, x.row(5), apart ? 2 : 1);
                due("row(10) of " + one + " and " + other, x.row(10), one == other ? 0 : 1);
            }
        }
    }

    private void partsFrom0On() {
        edge.sentence("parted as one likes, so that both parts COME OUT");
        EvenPurse x = new EvenPurse();
        due("row(0) where nothing is sold", x.row(0), 1);
        due("row(1) where nothing is sold", x.row(1), 0);
        x.thing(0, 3, 2, 0, 0);
        due("all to the first", x.row(6), 1);
        due("nothing to part", x.row(0), 1);
        due("one shop alone can not", x.row(7), 0);
        x.thing(0, 0, 0, 0, 0);
        x.thing(5, 3, 2, 0, 0);
        due("all to the second", x.row(6), 1);
        x.thing(0, 3, 2, 0, 0);
        int[] ways = {1, 0, 0, 2, 0, 0, 3, 0, 0, 2, 0, 0, 1, 0};
        for (int sum = 0; sum < ways.length; sum++) {
            due("row(" + sum + ")", x.row(sum), ways[sum]);
        }
        x.thing(5, 3, 0, 0, 0);
        due("row(3), STOCK 0 in the second", x.row(3), 1);
    }

    private void partsNotBaskets() {
        edge.sentence("how many ways to part it (part for the first one)");
        EvenPurse x = new EvenPurse();
        x.thing(0, 1, 9, 0, 0);
        x.thing(1, 1, 9, 0, 0);
        x.thing(2, 1, 9, 0, 0);
        due("one part, many baskets", x.row(9), 1);
        x.thing(3, 1, 9, 0, 0);
        due("parts 0 to 9", x.row(9), 10);
        due("parts 0 to 27", x.row(27), 10);
        due("27 and 9", x.row(36), 1);
        due("37", x.row(37), 0);
    }

    private void rowUpTo999() {
        edge.sentence("row: SUMS 0 to 999");
        EvenPurse x = new EvenPurse();
        for (int thing = 0; thing < 3; thing++) {
            x.thing(thing, 37, 9, 0, 0);
            x.thing(thing + 3, 37, 9, 0, 0);
        }
        due("row(999)", x.row(999), 28);
        due("row(998)", x.row(998), 0);
        due("row(962)", x.row(962), 27);
    }

    // ---- promise 24

    private void promise24() {
        edge.sentence("year: OUTSIDE: a seed (0 to 9999)");
        edge.bounds("year(#, 9, 0)", 0, 9999, Edge.OUTSIDE, (x, n) -> x.year(n, 9, 0));
        edge.sentence("year: OUTSIDE: m weeks (1 to 99)");
        edge.bounds("year(5, #, 0)", 1, 99, Edge.OUTSIDE, (x, n) -> x.year(5, n, 0));
        edge.sentence("year: OUTSIDE: what");
        edge.bounds("year(5, 9, #)", 0, 1, Edge.OUTSIDE, (x, n) -> x.year(5, 9, n));
        firstDraws();
        wholeYears();
        buyersThatAreStuck();
    }

    /** The first buyer after this seed has so many pence: only with these does one come out. */
    private void firstBuyer(int seed, int pence) {
        EvenPurse x = new EvenPurse();
        int price = Math.min(pence, 99);
        x.thing(0, price, 1, 7, 0);
        x.thing(1, Math.min(pence - price, 99), 1, 7, 0);
        x.thing(2, pence - price > 99 ? pence - price - 99 : 0, 1, 7, 0);
        int things = pence == 0 ? 0 : pence <= 99 ? 1 : pence <= 198 ? 2 : 3;
        due("year(" + seed + ", 1, 0) of " + pence, x.year(seed, 1, 0), 1);
        due("year(" + seed + ", 1, 1) of " + pence, x.year(seed, 1, 1), 7 * things);
        due("year(" + seed + ", 1, 0) where nothing is sold", new EvenPurse().year(seed, 1, 0), pence == 0 ? 1 : 0);
    }

    private void firstDraws() {
        edge.sentence("x becomes (75 x and 74) left over by 65537");
        // 74; 65474 is left as it is; 65549 leaves 12; 749999 leaves 29092.
        firstBuyer(0, 74);
        firstBuyer(872, 74);
        firstBuyer(873, 12);
        firstBuyer(9999, 92);
        edge.sentence("a buyer has x left over by 200 pence");
        // 149; 224; 599; 75 times 1752 and 74 is 131474, which leaves 400.
        firstBuyer(1, 149);
        firstBuyer(2, 24);
        firstBuyer(7, 199);
        firstBuyer(1752, 0);
    }

    private void wholeYears() {
        edge.sentence("of m weeks (1 to 99): how many COME OUT; WORTH of all their BEST BASKETS");
        int[] seeds = {0, 1, 4999, 9999};
        for (int seed : seeds) {
            EvenPurse x = Edge.State.BUSY.make();
            long drawn = seed;
            int buyers = 0;
            int worths = 0;
            for (int m = 1; m <= 99; m++) {
                drawn = (75 * drawn + 74) % 65537;
                int worth = x.best((int) (drawn % 200), -1);
                buyers += worth >= 0 ? 1 : 0;
                worths += Math.max(worth, 0);
                due("year(" + seed + ", " + m + ", 0)", x.year(seed, m, 0), buyers);
                due("year(" + seed + ", " + m + ", 1)", x.year(seed, m, 1), worths);
            }
        }
    }

    private void buyersThatAreStuck() {
        edge.sentence("how many COME OUT, where none does and where all do");
        EvenPurse x = new EvenPurse();
        due("year(0, 1, 0), none", x.year(0, 1, 0), 0);
        due("year(0, 1, 1), none", x.year(0, 1, 1), 0);
        for (int thing = 0; thing < 6; thing++) {
            x.thing(thing, thing < 2 ? 1 : 10 + thing, 9, 0, 0);
        }
        due("year(0, 99, 0), all", x.year(0, 99, 0), 99);
        due("year(0, 99, 1), worth nothing", x.year(0, 99, 1), 0);
    }

    // ---- promise 25

    private void promise25() {
        edge.sentence("image: OUTSIDE.");
        edge.bounds("image(#)", 0, 1, Edge.OUTSIDE, (x, n) -> x.image(n));
        edge.sentence("All but the PAD is kept in an IMAGE (0, 1): 1.");
        for (int n = 0; n < 2; n++) {
            EvenPurse x = Edge.State.BUSY.make();
            due("image(" + n + ")", x.image(n), 1);
            change(x);
            due("restore(" + n + ")", x.restore(n), 1);
            tellsLikeBusy(x);
            due("the pad is as it was left", x.told(0), 1);
        }
        edge.sentence("a new object is kept, too");
        EvenPurse x = new EvenPurse();
        due("image(1)", x.image(1), 1);
        change(x);
        x.wipe();
        due("restore(1)", x.restore(1), 1);
        due("restore(0) was not kept", x.restore(0), Edge.STATE);
        due("ways(0)", x.ways(0), 1);
        due("stuck(0, 999, -1)", x.stuck(0, 999, -1), 999);
        due("together(-1)", x.together(-1), 0);
        due("told(1)", x.told(1), 0);
        for (int purse = 0; purse < 4; purse++) {
            due("told(" + (2 + purse) + ")", x.told(2 + purse), -1);
        }
        imagesApart();
    }

    /** Whatever an image keeps is another one from here on. */
    private static void change(EvenPurse x) {
        for (int thing = 0; thing < 6; thing++) {
            x.thing(thing, 50 + thing, 8, 70, 60);
        }
        Edge.purses(x, 500, 501, 502, 503);
        x.forget();
        for (int n = 0; n < 6; n++) {
            x.seen(5, 9, 1);
        }
        x.wipe();
        x.say('f');
    }

    private void tellsLikeBusy(EvenPurse x) {
        EvenPurse busy = Edge.State.BUSY.make();
        for (int what = 1; what < 64; what++) {
            due("told(" + what + ")", x.told(what), busy.told(what));
        }
        for (int i = -1; i < 12; i++) {
            due("fits(0, 999, " + i + ")", x.fits(0, 999, i), busy.fits(0, 999, i));
            due("stuck(0, 999, " + i + ")", x.stuck(0, 999, i), busy.stuck(0, 999, i));
        }
        for (int sum = 0; sum < 40; sum++) {
            due("ways(" + sum + ")", x.ways(sum), busy.ways(sum));
            due("best(" + sum + ", -1)", x.best(sum, -1), busy.best(sum, -1));
            due("row(" + sum + ")", x.row(sum), busy.row(sum));
        }
        due("together(-1)", x.together(-1), busy.together(-1));
        due("endless(0)", x.endless(0), busy.endless(0));
        due("fault()", x.fault(), 0);
    }

    private void imagesApart() {
        edge.sentence("an IMAGE (0, 1)");
        EvenPurse x = Edge.oneThing(0, 10, 1);
        x.image(0);
        x.thing(0, 20, 1, 0, 0);
        due("restore(1) was not kept", x.restore(1), Edge.STATE);
        x.image(1);
        x.thing(0, 30, 1, 0, 0);
        due("restore(0)", x.restore(0), 1);
        due("ways(10)", x.ways(10), 1);
        due("restore(1)", x.restore(1), 1);
        due("ways(20)", x.ways(20), 1);
        edge.sentence("what is kept last in an IMAGE stands");
        x.thing(0, 40, 1, 0, 0);
        x.image(0);
        x.thing(0, 50, 1, 0, 0);
        due("restore(0)", x.restore(0), 1);
        due("ways(40)", x.ways(40), 1);
        due("ways(10)", x.ways(10), 0);
        due("restore(1)", x.restore(1), 1);
        due("ways(20)", x.ways(20), 1);
    }

    // ---- promise 26

    private void promise26() {
        edge.sentence("restore: OUTSIDE.");
        edge.bounds("restore(#)", 0, 1, Edge.OUTSIDE, (x, n) -> x.restore(n));
        edge.sentence("STATE: it was not.");
        edge.refused("restore(0)", x -> x.restore(0), Edge.STATE, Edge.State.NEW);
        edge.refused("restore(1)", x -> x.restore(1), Edge.STATE, Edge.State.NEW, Edge.State.BUSY);
        edge.sentence("It is as it was when it was kept: 1.");
        EvenPurse x = Edge.State.BUSY.make();
        x.image(1);
        due("restore(1) at once", x.restore(1), 1);
        EvenPurse y = Edge.State.BUSY.make();
        y.image(1);
        edge.unchanged("restored at once", x, y);
        restoredAgain();
        restoredSights();
        restoredSixSights();
        restoredPurses();
    }

    private void restoredAgain() {
        edge.sentence("It is as it was when it was kept, each time");
        EvenPurse x = Edge.State.BUSY.make();
        x.image(1);
        for (int time = 0; time < 3; time++) {
            change(x);
            due("restore(1)", x.restore(1), 1);
            due("told(1)", x.told(1), 2);
            due("told(2)", x.told(2), 5);
            due("told(10)", x.told(10), 4);
            due("best(8, -1)", x.best(8, -1), 17);
        }
    }

    private void restoredSights() {
        edge.sentence("SIGHTS as they were when it was kept");
        EvenPurse x = Edge.twoThings();
        x.seen(0, 1, 0);
        x.image(0);
        x.forget();
        x.seen(1, 3, 0);
        x.seen(1, 2, 1);
        due("fits(0, 999, 0)", x.fits(0, 999, 0), 9);
        x.image(1);
        due("restore(0)", x.restore(0), 1);
        due("fits(0, 999, 0)", x.fits(0, 999, 0), 4);
        due("forget()", x.forget(), 1);
        due("restore(1)", x.restore(1), 1);
        due("fits(0, 999, 0)", x.fits(0, 999, 0), 9);
        due("seen(1, 9, 1), how many", x.seen(1, 9, 1), 3);
    }

    private void restoredSixSights() {
        edge.sentence("all six SIGHTS as they were when it was kept");
        for (int odd = 0; odd < 6; odd++) {
            EvenPurse x = Edge.twoThings();
            for (int sight = 0; sight < 6; sight++) {
                x.seen(sight == odd ? 1 : 0, sight == odd ? 3 : 0, sight == odd ? 0 : 1);
            }
            x.image(0);
            x.forget();
            for (int sight = 0; sight < 6; sight++) {
                x.seen(5, 9, sight == odd ? 1 : 0);
            }
            due("fits(0, 999, -1), other ones", x.fits(0, 999, -1), 0);
            due("restore(0)", x.restore(0), 1);
            due("told(1)", x.told(1), 6);
            due("fits(0, 999, -1), the " + odd + "-th is another one", x.fits(0, 999, -1), 2);
            due("fits(0, 999, 0)", x.fits(0, 999, 0), 13);
            due("fits(0, 999, 1)", x.fits(0, 999, 1), 17);
            due("the seventh", x.seen(0, 0, 0), Edge.FULL);
        }
    }

    private void restoredPurses() {
        edge.sentence("PURSES as they were when it was kept: none where there was none");
        EvenPurse x = Edge.twoThings();
        x.purse(0, 17);
        x.image(0);
        Edge.purses(x, -1, 17, 17, 17);
        due("together(-1)", x.together(-1), 96);
        due("restore(0)", x.restore(0), 1);
        due("together(-1)", x.together(-1), 32);
        due("together(0)", x.together(0), 0);
        for (int purse = 1; purse < 4; purse++) {
            due("together(" + purse + ")", x.together(purse), Edge.UNKNOWN);
            due("told(" + (2 + purse) + ")", x.told(2 + purse), -1);
        }
    }

    // ---- promise 27

    private void promise27() {
        edge.sentence("told: OUTSIDE.");
        for (int what = -20; what <= 110; what++) {
            int asked = what;
            boolean thing = what >= 10 && what <= 63 && what % 10 <= 3;
            if (!thing && (what < 0 || what > 5)) {
                edge.refused("told(" + what + ")", x -> x.told(asked), Edge.OUTSIDE);
            }
        }
        edge.refused("told(lowest)", x -> x.told(Edge.LOWEST), Edge.OUTSIDE);
        edge.refused("told(highest)", x -> x.told(Edge.HIGHEST), Edge.OUTSIDE);
        edge.sentence("0 signs, 1 SIGHTS, 2 to 5 PURSES");
        due("told(0), none", new EvenPurse().told(0), 0);
        due("told(0), forty", Edge.State.PACKED.make().told(0), 40);
        due("told(1), none", new EvenPurse().told(1), 0);
        due("told(1), six", Edge.State.PACKED.make().told(1), 6);
        due("told(2)", Edge.State.PACKED.make().told(2), 999);
        due("told(3)", Edge.State.PACKED.make().told(3), 0);
        due("told(4)", Edge.State.PACKED.make().told(4), 40);
        due("told(5)", Edge.State.PACKED.make().told(5), 41);
        due("told(3), there is none", Edge.State.BUSY.make().told(3), -1);
        toldThings();
    }

    private void toldThings() {
        edge.sentence("10 times (1 and a THING) and 0 PRICE, 1 STOCK, 2 WORTH, 3 LESS");
        for (int thing = 0; thing < 6; thing++) {
            int[] numbers = {99, 9, 98, 97};
            EvenPurse x = new EvenPurse();
            x.thing(thing, numbers[0], numbers[1], numbers[2], numbers[3]);
            for (int other = 0; other < 6; other++) {
                for (int which = 0; which < 4; which++) {
                    int what = 10 * (1 + other) + which;
                    due("told(" + what + ") of thing " + thing, x.told(what), thing == other ? numbers[which] : 0);
                }
            }
        }
    }
}
