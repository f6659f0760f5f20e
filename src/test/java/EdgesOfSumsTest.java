/** Each sentence on sums (terms, promises 7 to 13) that names a boundary case, by itself. */
public final class EdgesOfSumsTest {
    private final Edge edge = new Edge();

    public static void main(String[] args) {
        EdgesOfSumsTest test = new EdgesOfSumsTest();
        test.comesOut();
        test.promise7();
        test.promise8();
        test.promise9();
        test.promise10();
        test.promise11();
        test.promise12();
        test.promise13();
        test.edge.end();
    }

    private void due(String call, int got, int want) {
        edge.due(call, got, want);
    }

    /** Three things of 37, nine of each: 37, 74 .. 999 come out. */
    private static EvenPurse upTo999() {
        EvenPurse x = new EvenPurse();
        for (int thing = 1; thing < 4; thing++) {
            x.thing(thing, 37, 9, 1, 0);
        }
        return x;
    }

    /** Two things of 99, nine of each: 99, 198 .. 990 come out, and 1089 would. */
    private static EvenPurse above999() {
        EvenPurse x = Edge.oneThing(0, 99, 9);
        x.thing(5, 99, 9, 0, 0);
        return x;
    }

    // ---- what comes out

    private void comesOut() {
        emptyOneComesOut();
        sumsUpTo999();
        baskets();
    }

    private void emptyOneComesOut() {
        edge.sentence("A SUM COMES OUT (0: by the empty one)");
        for (Edge.State state : Edge.State.values()) {
            EvenPurse x = state.make();
            due("ways(0) on " + state, x.ways(0), 1);
            due("stuck(0, 0, -1) on " + state, x.stuck(0, 0, -1), 0);
            due("row(0) on " + state, x.row(0), 1);
            for (int i = -1; i < 6; i++) {
                due("best(0, " + i + ") on " + state, x.best(0, i), 0);
            }
        }
    }

    private void sumsUpTo999() {
        edge.sentence("SUMS are pence, 0 to 999");
        EvenPurse x = upTo999();
        due("best(999, -1)", x.best(999, -1), 27);
        due("ways(999)", x.ways(999), 1);
        due("ways(962)", x.ways(962), 3);
        due("stuck(999, 999, -1)", x.stuck(999, 999, -1), 0);
        due("stuck(998, 998, -1)", x.stuck(998, 998, -1), 1);
        x.thing(4, 1, 1, 0, 0);
        due("what would come to 1000 changes nothing", x.ways(999), 1);
        due("nor the sums from 0 on", x.ways(0), 1);
        due("best(999, 4)", x.best(999, 4), 0);
    }

    private void baskets() {
        edge.sentence("so many of each THING that is sold, STOCK at most");
        EvenPurse x = Edge.twoThings();
        int[] out = {0, 3, 4, 6, 7, 8, 9, 10, 11, 13, 14, 17};
        int next = 0;
        for (int sum = 0; sum < 20; sum++) {
            boolean due = next < out.length && out[next] == sum;
            due("ways(" + sum + ")", x.ways(sum), due ? 1 : 0);
            due("stuck(" + sum + ", " + sum + ", -1)", x.stuck(sum, sum, -1), due ? 0 : 1);
            next += due ? 1 : 0;
        }
    }

    // ---- promise 7

    private void promise7() {
        edge.sentence("ways: OUTSIDE.");
        edge.bounds("ways(#)", 0, 999, Edge.OUTSIDE, (x, n) -> x.ways(n));
        edge.sentence("BASKETS that come to a SUM");
        EvenPurse x = new EvenPurse();
        for (int thing = 0; thing < 6; thing++) {
            x.thing(thing, 1, 9, 0, 0);
        }
        // 10 comes by 3003 baskets where stock has no end; six of them are ten of one thing.
        int[][] rows = {{0, 1}, {1, 6}, {2, 21}, {9, 2002}, {10, 2997}, {27, 55252}, {53, 6}, {54, 1}, {55, 0}, {999, 0}};
        for (int[] row : rows) {
            due("ways(" + row[0] + ")", x.ways(row[0]), row[1]);
        }
        for (int thing = 1; thing < 6; thing++) {
            x.thing(thing, 0, 9, 0, 0);
        }
        due("ways(9) of one that is sold", x.ways(9), 1);
        due("ways(10) of one that is sold", x.ways(10), 0);
        x.thing(1, 1, 0, 0, 0);
        due("ways(9) with one of STOCK 0", x.ways(9), 1);
        x.thing(1, 1, 1, 0, 0);
        due("ways(9) with one of STOCK 1", x.ways(9), 2);
        due("ways(10) with one of STOCK 1", x.ways(10), 1);
    }

    // ---- promise 8

    private void promise8() {
        edge.sentence("best: OUTSIDE.");
        edge.bounds("best(#, -1)", 0, 999, Edge.OUTSIDE, (x, n) -> x.best(n, -1));
        edge.bounds("best(#, 5)", 0, 999, Edge.OUTSIDE, (x, n) -> x.best(n, 5));
        bestOfStuck();
        bestOfNoThing();
        bestOutsideAheadOfNone();
        bestOfNotSold();
        mostWorthFirst();
        fewestOfEach();
        fewestInTurn();
        noneToNine();
    }

    private void bestOfStuck() {
        edge.sentence("NONE: the SUM is STUCK");
        EvenPurse x = Edge.twoThings();
        int[] stuck = {1, 2, 5, 12, 15, 16, 18, 999};
        for (int sum : stuck) {
            for (int i = -1; i < 6; i++) {
                due("best(" + sum + ", " + i + ")", x.best(sum, i), Edge.NONE);
            }
        }
    }

    private void bestOfNoThing() {
        edge.sentence("NONE: i is no THING");
        EvenPurse x = Edge.twoThings();
        int[] noThings = {-2, 6, 7, Edge.LOWEST, Edge.HIGHEST};
        for (int i : noThings) {
            due("best(0, " + i + ")", x.best(0, i), Edge.NONE);
            due("best(17, " + i + ")", x.best(17, i), Edge.NONE);
            due("best(5, " + i + ") of a stuck one", x.best(5, i), Edge.NONE);
        }
        edge.sentence("its WORTH (i = -1), how many of THING i");
        int[] answers = {32, 2, 3, 0, 0, 0, 0};
        for (int i = -1; i < 6; i++) {
            due("best(17, " + i + ")", x.best(17, i), answers[i + 1]);
        }
    }

    private void bestOutsideAheadOfNone() {
        edge.sentence("best: a refused call, whatever i is");
        edge.refused("best(1000, 6)", x -> x.best(1000, 6), Edge.OUTSIDE);
        edge.refused("best(-1, -2)", x -> x.best(-1, -2), Edge.OUTSIDE);
    }

    private void bestOfNotSold() {
        edge.sentence("how many of a THING that is not sold, or that there are none of");
        EvenPurse x = Edge.twoThings();
        x.thing(2, 0, 9, 99, 0);
        x.thing(3, 1, 0, 99, 0);
        for (int i = 2; i < 6; i++) {
            due("best(17, " + i + ")", x.best(17, i), 0);
        }
        due("best(17, -1)", x.best(17, -1), 32);
    }

    private void mostWorthFirst() {
        edge.sentence("such a BASKET of the most WORTH");
        EvenPurse x = new EvenPurse();
        x.thing(0, 3, 1, 1, 0);
        x.thing(1, 1, 3, 0, 0);
        due("worth 1 ahead of fewer of 0", x.best(3, 0), 1);
        due("worth 1 ahead of more of 1", x.best(3, 1), 0);
        due("it is worth 1", x.best(3, -1), 1);
        x.thing(1, 1, 3, 1, 0);
        due("worth 3", x.best(3, 0), 0);
        due("worth 3 by three", x.best(3, 1), 3);
        due("worth 3", x.best(3, -1), 3);
        x.thing(0, 3, 1, 99, 0);
        x.thing(1, 1, 3, 33, 0);
        due("99 by both, so the fewest of 0", x.best(3, 0), 0);
        x.thing(1, 1, 3, 33, 1);
        due("99 against 96", x.best(3, 0), 1);
    }

    private void fewestOfEach() {
        edge.sentence("of several the one with the fewest of THING 0, then of 1, and so on");
        for (int thing = 0; thing < 5; thing++) {
            for (int later = thing + 1; later < 6; later++) {
                EvenPurse x = new EvenPurse();
                x.thing(thing, 1, 9, 1, 0);
                x.thing(later, 1, 9, 1, 0);
                String told = " of " + thing + " and " + later;
                due("best(1, first)" + told, x.best(1, thing), 0);
                due("best(1, later)" + told, x.best(1, later), 1);
                due("best(9, first)" + told, x.best(9, thing), 0);
                due("best(9, later)" + told, x.best(9, later), 9);
                due("best(10, first)" + told, x.best(10, thing), 1);
                due("best(10, later)" + told, x.best(10, later), 9);
            }
        }
    }

    private void fewestInTurn() {
        edge.sentence("fewest of THING 0, then of 1: in turn, not all together");
        for (int thing = 0; thing < 5; thing++) {
            EvenPurse x = new EvenPurse();
            x.thing(thing, 9, 1, 0, 0);
            x.thing(thing + 1, 1, 9, 0, 0);
            due("nine of the later rather than one of " + thing, x.best(9, thing), 0);
            due("nine of it", x.best(9, thing + 1), 9);
        }
        // 6 is 6, 3 and 3, 3 and 2 and 1, or 2 and 2 and 2: the last one holds neither thing 0 nor thing 1.
        EvenPurse x = new EvenPurse();
        x.thing(0, 6, 1, 0, 0);
        x.thing(1, 3, 2, 0, 0);
        x.thing(2, 2, 3, 0, 0);
        x.thing(3, 1, 1, 0, 0);
        int[] counts = {0, 0, 3, 0};
        for (int i = 0; i < 4; i++) {
            due("best(6, " + i + ")", x.best(6, i), counts[i]);
        }
        x.thing(2, 2, 2, 0, 0);
        int[] fewer = {0, 1, 1, 1};
        for (int i = 0; i < 4; i++) {
            due("with two of 2 alone best(6, " + i + ")", x.best(6, i), fewer[i]);
        }
    }

    private void noneToNine() {
        edge.sentence("how many of THING i: 0 to 9");
        for (int thing = 0; thing < 6; thing++) {
            EvenPurse x = Edge.oneThing(thing, 5, 9);
            for (int count = 0; count <= 9; count++) {
                due(count + " of " + thing, x.best(5 * count, thing), count);
                due("none of another", x.best(5 * count, (thing + 1) % 6), 0);
            }
            due("ten of " + thing, x.best(50, thing), Edge.NONE);
        }
    }

    // ---- promise 9

    private void promise9() {
        edge.sentence("stuck: OUTSIDE.");
        edge.bounds("stuck(#, 999, -1)", 0, 999, Edge.OUTSIDE, (x, n) -> x.stuck(n, 999, -1));
        edge.bounds("stuck(0, #, -1)", 0, 999, Edge.OUTSIDE, (x, n) -> x.stuck(0, n, -1));
        stuckSpans();
        stuckBackwards();
        stuckNone();
    }

    private void stuckSpans() {
        edge.sentence("SUMS of a span that do not COME OUT: how many, the i-th");
        EvenPurse x = Edge.twoThings();
        int[][] rows = {{5, 5, -1, 1}, {5, 5, 0, 5}, {4, 4, -1, 0}, {4, 5, -1, 1}, {5, 6, -1, 1}, {0, 0, -1, 0},
            {1, 2, -1, 2}, {1, 2, 0, 1}, {1, 2, 1, 2}, {2, 5, 0, 2}, {2, 5, 1, 5}, {0, 999, -1, 988}, {0, 999, 987, 999},
            {999, 999, -1, 1}, {999, 999, 0, 999}};
        for (int[] row : rows) {
            due("stuck(" + row[0] + ", " + row[1] + ", " + row[2] + ")", x.stuck(row[0], row[1], row[2]), row[3]);
        }
    }

    private void stuckBackwards() {
        edge.sentence("OUTSIDE: a span that ends ahead of its beginning, too");
        int[][] spans = {{1, 0}, {999, 0}, {999, 998}, {5, 4}};
        int[] places = {-1, 0, -2};
        for (int[] span : spans) {
            for (int i : places) {
                edge.refused("stuck(" + span[0] + ", " + span[1] + ", " + i + ")", x -> x.stuck(span[0], span[1], i),
                        Edge.OUTSIDE);
            }
        }
        edge.refused("stuck(lowest, highest, -2)", x -> x.stuck(Edge.LOWEST, Edge.HIGHEST, -2), Edge.OUTSIDE);
    }

    private void stuckNone() {
        edge.sentence("NONE: there is no such one (i below -1, too)");
        EvenPurse x = Edge.twoThings();
        int[] places = {-2, -3, 8, 9, Edge.LOWEST, Edge.HIGHEST};
        for (int i : places) {
            due("stuck(0, 19, " + i + ")", x.stuck(0, 19, i), Edge.NONE);
        }
        due("stuck(0, 19, 7), the last one", x.stuck(0, 19, 7), 19);
        due("stuck(0, 18, 7)", x.stuck(0, 18, 7), Edge.NONE);
        due("stuck(4, 4, 0)", x.stuck(4, 4, 0), Edge.NONE);
        due("stuck(0, 0, 0)", x.stuck(0, 0, 0), Edge.NONE);
        due("stuck(0, 999, 988)", x.stuck(0, 999, 988), Edge.NONE);
    }

    // ---- promise 10

    private void promise10() {
        edge.sentence("near: OUTSIDE.");
        edge.bounds("near(#, 0)", 0, 999, Edge.OUTSIDE, (x, n) -> x.near(n, 0));
        edge.bounds("near(#, 1)", 0, 999, Edge.OUTSIDE, (x, n) -> x.near(n, 1));
        edge.bounds("near(500, #)", 0, 1, Edge.OUTSIDE, (x, n) -> x.near(500, n));
        EvenPurse x = Edge.twoThings();
        edge.sentence("the greatest SUM, not above, that COMES OUT");
        int[][] below = {{0, 0}, {1, 0}, {2, 0}, {3, 3}, {5, 4}, {16, 14}, {17, 17}, {18, 17}, {999, 17}};
        for (int[] row : below) {
            due("near(" + row[0] + ", 0)", x.near(row[0], 0), row[1]);
        }
        edge.sentence("the least one, not below");
        int[][] above = {{0, 0}, {1, 3}, {2, 3}, {3, 3}, {5, 6}, {15, 17}, {17, 17}};
        for (int[] row : above) {
            due("near(" + row[0] + ", 1)", x.near(row[0], 1), row[1]);
        }
        edge.sentence("NONE: not up to 999");
        due("near(18, 1)", x.near(18, 1), Edge.NONE);
        due("near(999, 1)", x.near(999, 1), Edge.NONE);
        due("near(963, 1)", upTo999().near(963, 1), 999);
        due("near(999, 1)", upTo999().near(999, 1), 999);
        due("near(990, 1)", above999().near(990, 1), 990);
        due("near(991, 1), though 1089 would", above999().near(991, 1), Edge.NONE);
        due("near(999, 0)", above999().near(999, 0), 990);
    }

    // ---- promise 11

    private void promise11() {
        edge.sentence("endless: OUTSIDE.");
        edge.bounds("endless(#)", 0, 1, Edge.OUTSIDE, (x, n) -> x.endless(n));
        edge.sentence("NONE: none is STUCK");
        endless(Edge.NONE, 0, 1);
        endless(Edge.NONE, 0, 1, 99);
        endless(Edge.NONE, 0, 99, 1);
        for (int thing = 0; thing < 6; thing++) {
            EvenPurse x = Edge.oneThing(thing, 1, 0);
            due("endless(0) of 1 penny, thing " + thing, x.endless(0), Edge.NONE);
            due("endless(1) of 1 penny, thing " + thing, x.endless(1), 0);
        }
        edge.sentence("the greatest SUM that would be STUCK; how many would");
        endless(1, 1, 2, 3);
        endless(1, 1, 3, 2);
        endless(5, 3, 3, 4);
        endless(29, 15, 6, 10, 15);
        endless(29, 15, 15, 10, 6);
        endless(43, 22, 6, 9, 20);
        endless(13, 8, 5, 7, 11);
        endless(97, 49, 2, 99);
        endless(97, 49, 99, 2);
        edge.sentence("the greatest SUM of all (above 999, too)");
        endless(9505, 4753, 98, 99);
        endless(9505, 4753, 99, 98);
        endless(99 * 97 - 99 - 97, 98 * 96 / 2, 97, 99);
        edge.sentence("ENDLESS: there is no end of them");
        endless(Edge.ENDLESS, Edge.ENDLESS, 2);
        endless(Edge.ENDLESS, Edge.ENDLESS, 99);
        endless(Edge.ENDLESS, Edge.ENDLESS, 2, 4, 6, 8, 10, 12);
        endless(Edge.ENDLESS, Edge.ENDLESS, 33, 66, 99);
        endless(Edge.ENDLESS, Edge.ENDLESS, 99, 99);
        edge.sentence("ENDLESS: also if nothing is sold");
        endless(Edge.ENDLESS, Edge.ENDLESS);
        endless(Edge.ENDLESS, Edge.ENDLESS, 0, 0, 0, 0, 0, 0);
        endlessOfStockZero();
        endlessOfNotSold();
    }

    /** With these prices, of STOCK 0 and of STOCK 1. */
    private void endless(int greatest, int many, int... prices) {
        for (int stock = 0; stock < 2; stock++) {
            EvenPurse x = new EvenPurse();
            for (int thing = 0; thing < prices.length; thing++) {
                x.thing(thing, prices[thing], stock, 1, 1);
            }
            String told = " of " + java.util.Arrays.toString(prices) + ", stock " + stock;
            due("endless(0)" + told, x.endless(0), greatest);
            due("endless(1)" + told, x.endless(1), many);
        }
    }

    private void endlessOfStockZero() {
        edge.sentence("if STOCK of all that is sold (of STOCK 0, too) had no end");
        EvenPurse x = Edge.oneThing(0, 4, 9);
        x.thing(5, 3, 0, 0, 0);
        due("endless(0)", x.endless(0), 5);
        due("endless(1)", x.endless(1), 3);
        due("with its STOCK alone 3 is stuck", x.stuck(3, 3, -1), 1);
    }

    private void endlessOfNotSold() {
        edge.sentence("all that is sold");
        EvenPurse x = Edge.oneThing(0, 4, 9);
        x.thing(5, 0, 9, 99, 0);
        due("endless(1)", x.endless(1), Edge.ENDLESS);
        x.thing(5, 3, 9, 0, 0);
        due("endless(1) once it is sold", x.endless(1), 3);
        x.thing(0, 0, 9, 0, 0);
        due("endless(1) of 3 alone", x.endless(1), Edge.ENDLESS);
        x.thing(5, 0, 9, 0, 0);
        due("endless(0) of nothing", x.endless(0), Edge.ENDLESS);
    }

    // ---- promise 12

    private void promise12() {
        edge.sentence("pins: OUTSIDE.");
        edge.bounds("pins(#)", 0, 999, Edge.OUTSIDE, (x, n) -> x.pins(n));
        edge.sentence("the fewest pence (0 to 99) so that the rest COMES OUT");
        EvenPurse x = Edge.twoThings();
        int[][] rows = {{0, 0}, {1, 1}, {2, 2}, {3, 0}, {4, 0}, {5, 1}, {12, 1}, {16, 2}, {17, 0}, {18, 1}, {116, 99}};
        for (int[] row : rows) {
            due("pins(" + row[0] + ")", x.pins(row[0]), row[1]);
        }
        due("99 leave nothing", new EvenPurse().pins(99), 99);
        due("pins(999) of what comes out", upTo999().pins(999), 0);
        due("pins(998)", upTo999().pins(998), 36);
        edge.sentence("NONE: not by 99");
        due("pins(117)", x.pins(117), Edge.NONE);
        due("pins(999)", x.pins(999), Edge.NONE);
        due("100 of nothing", new EvenPurse().pins(100), Edge.NONE);
    }

    // ---- promise 13

    private void promise13() {
        edge.sentence("weeks: OUTSIDE.");
        edge.bounds("weeks(#, 1)", 0, 999, Edge.OUTSIDE, (x, n) -> x.weeks(n, 1));
        edge.sentence("a wage (1 to 999)");
        edge.bounds("weeks(5, #)", 1, 999, Edge.OUTSIDE, (x, n) -> x.weeks(5, n));
        edge.bounds("weeks(0, #)", 1, 999, Edge.OUTSIDE, (x, n) -> x.weeks(0, n));
        weeksFrom0On();
        weeksUpTo999();
        weeksNone();
    }

    private void weeksFrom0On() {
        edge.sentence("the fewest weeks (0 to 99)");
        EvenPurse x = Edge.twoThings();
        int[][] rows = {{0, 1, 0}, {0, 999, 0}, {17, 999, 0}, {5, 1, 1}, {1, 1, 2}, {1, 4, 2}, {5, 12, 1}, {1, 16, 1}};
        for (int[] row : rows) {
            due("weeks(" + row[0] + ", " + row[1] + ")", x.weeks(row[0], row[1]), row[2]);
        }
        // Prices are 99 at most, so that what comes out at all does within 98 weeks.
        due("98 weeks", Edge.oneThing(0, 99, 1).weeks(1, 1), 98);
    }

    private void weeksUpTo999() {
        edge.sentence("COME OUT (not above 999)");
        due("just 999", upTo999().weeks(963, 36), 1);
        due("just 999 by one leap", upTo999().weeks(1, 998), 1);
        due("just 999 at once", upTo999().weeks(999, 999), 0);
        due("1089 is above", above999().weeks(991, 98), Edge.NONE);
        due("1089 is above, by pence", above999().weeks(991, 1), Edge.NONE);
    }

    private void weeksNone() {
        edge.sentence("WEEKS; NONE.");
        EvenPurse x = Edge.twoThings();
        int[][] rows = {{18, 1}, {5, 7}, {12, 3}, {16, 999}, {999, 1}, {999, 999}};
        for (int[] row : rows) {
            due("weeks(" + row[0] + ", " + row[1] + ")", x.weeks(row[0], row[1]), Edge.NONE);
        }
    }
}
