/** Each sentence on purses (terms, promises 14 to 19) that names a boundary case, by itself. */
public final class EdgesOfPursesTest {
    private final Edge edge = new Edge();

    public static void main(String[] args) {
        EdgesOfPursesTest test = new EdgesOfPursesTest();
        test.promise14();
        test.promise15();
        test.severalPartings();
        test.promise16();
        test.promise17();
        test.promise18();
        test.promise19();
        test.edge.end();
    }

    private void due(String call, int got, int want) {
        edge.due(call, got, want);
    }

    /** One thing of this price, one of it, worth 5: only this sum comes out beside 0. */
    private static EvenPurse onlyOut(int sum, int... purses) {
        EvenPurse x = new EvenPurse();
        x.thing(0, sum, 1, 5, 0);
        Edge.purses(x, purses);
        return x;
    }

    /** Three things of this price, nine of each, worth 1 each. */
    private static EvenPurse many(int price, int... purses) {
        EvenPurse x = new EvenPurse();
        for (int thing = 0; thing < 3; thing++) {
            x.thing(thing, price, 9, 1, 0);
        }
        Edge.purses(x, purses);
        return x;
    }

    private static EvenPurse withPurses(EvenPurse x, int... purses) {
        Edge.purses(x, purses);
        return x;
    }

    // ---- promise 14

    private void promise14() {
        edge.sentence("purse: UNKNOWN (there is no such PURSE)");
        edge.bounds("purse(#, 5)", 0, 3, Edge.UNKNOWN, (x, n) -> x.purse(n, 5));
        edge.sentence("OUTSIDE: -1 to 999.");
        for (int purse = 0; purse < 4; purse++) {
            int one = purse;
            edge.bounds("purse(" + one + ", #)", -1, 999, Edge.OUTSIDE, (x, n) -> x.purse(one, n));
        }
        edge.sentence("the first of these that fits: UNKNOWN ahead of OUTSIDE");
        edge.refused("purse(4, 1000)", x -> x.purse(4, 1000), Edge.UNKNOWN);
        edge.refused("purse(-1, -2)", x -> x.purse(-1, -2), Edge.UNKNOWN);
        purseOfZero();
        noPurseAgain();
        purseAgain();
    }

    private void purseOfZero() {
        edge.sentence("PURSES have SUMS (0 to 999)");
        int[] sums = {0, 1, 998, 999};
        for (int sum : sums) {
            EvenPurse x = new EvenPurse();
            due("purse(2, " + sum + ")", x.purse(2, sum), 1);
            due("told(4)", x.told(4), sum);
            due("together(2)", x.together(2), 2);
            due("the others are not there", x.together(1), Edge.UNKNOWN);
        }
    }

    private void noPurseAgain() {
        edge.sentence("below 0: there is none, as at first");
        EvenPurse x = Edge.twoThings();
        for (int purse = 0; purse < 4; purse++) {
            due("purse(" + purse + ", 7)", x.purse(purse, 7), 1);
            due("purse(" + purse + ", -1)", x.purse(purse, -1), 1);
            due("told(" + (2 + purse) + ")", x.told(2 + purse), -1);
        }
        edge.unchanged("as at first", x, Edge.twoThings());
        EvenPurse y = new EvenPurse();
        due("none is told where there is none", y.purse(0, -1), 1);
        edge.unchanged("as before", y, new EvenPurse());
    }

    private void purseAgain() {
        edge.sentence("A PURSE has a SUM: 1.");
        EvenPurse x = withPurses(Edge.twoThings(), 4, 8);
        due("another sum", x.purse(0, 3), 1);
        edge.unchanged("the last one stands", x, withPurses(Edge.twoThings(), 3, 8));
    }

    // ---- promise 15

    private void promise15() {
        unknownTogether();
        noPursesTogether();
        alone();
        purseThatWent();
        joinedUpTo999();
        joinedMustComeOut();
        stockAnew();
        mostTogether();
    }

    private void together(EvenPurse x, int worths, int... leaders) {
        due("together(-1)", x.together(-1), worths);
        for (int purse = 0; purse < leaders.length; purse++) {
            due("together(" + purse + ")", x.together(purse), leaders[purse]);
        }
    }

    private void unknownTogether() {
        edge.sentence("UNKNOWN: also one that there is not");
        int[] unknown = {-2, 4, 5, Edge.LOWEST, Edge.HIGHEST};
        for (int purse : unknown) {
            edge.refused("together(" + purse + ")", x -> x.together(purse), Edge.UNKNOWN);
        }
        edge.refused("together(1)", x -> x.together(1), Edge.UNKNOWN, Edge.State.BUSY, Edge.State.NEW);
        for (int none = 0; none < 4; none++) {
            EvenPurse x = withPurses(Edge.twoThings(), 4, 4, 4, 4);
            x.purse(none, -1);
            for (int purse = 0; purse < 4; purse++) {
                due("together(" + purse + ") without " + none, x.together(purse), purse == none ? Edge.UNKNOWN : purse);
            }
            due("together(-1) without " + none, x.together(-1), 30);
        }
    }

    private void noPursesTogether() {
        edge.sentence("WORTHS (purse = -1), where there is no PURSE");
        together(Edge.twoThings(), 0, Edge.UNKNOWN, Edge.UNKNOWN, Edge.UNKNOWN, Edge.UNKNOWN);
    }

    private void alone() {
        edge.sentence("or alone (one that is STUCK has nothing, WORTH 0)");
        for (int purse = 0; purse < 4; purse++) {
            int[][] rows = {{0, 0}, {5, 0}, {17, 32}, {18, 0}, {999, 0}};
            for (int[] row : rows) {
                EvenPurse x = Edge.twoThings();
                x.purse(purse, row[0]);
                due("together(-1) of " + row[0], x.together(-1), row[1]);
                due("together(" + purse + ") of " + row[0], x.together(purse), purse);
            }
        }
        together(withPurses(Edge.twoThings(), 18, 4), 10, 0, 1);
        together(withPurses(Edge.twoThings(), 4, 999, 999, 999), 10, 0, 1, 2, 3);
    }

    private void purseThatWent() {
        edge.sentence("PURSES that there are go in groups: one that went does not");
        for (int gone = 1; gone < 4; gone++) {
            EvenPurse x = withPurses(Edge.twoThings(), 18);
            x.purse(gone, 3);
            together(x, 5, 0);
            due("together(" + gone + ")", x.together(gone), gone);
            x.purse(gone, -1);
            // 18 less the -1 that tells that there is none would be 17, which comes out.
            together(x, 0, 0, Edge.UNKNOWN, Edge.UNKNOWN, Edge.UNKNOWN);
            due("pays(0, " + gone + ")", x.pays(0, gone), Edge.UNKNOWN);
        }
    }

    private void joinedUpTo999() {
        edge.sentence("one joined SUM (not above 999)");
        together(many(37, 500, 499), 27, 0, 0);
        together(many(37, 250, 250, 250, 249), 27, 0, 0, 0, 0);
        together(many(37, 998, -1, -1, 1), 27, 0, Edge.UNKNOWN, Edge.UNKNOWN, 0);
        together(many(50, 501, 449), 19, 0, 0);
        together(many(50, 501, 499), 0, 0, 1);
        together(many(50, 999, 1), 0, 0, 1);
        together(many(50, 999, 999, 999, 999), 0, 0, 1, 2, 3);
        together(many(50, 251, 249, 251, 249), 20, 0, 0, 2, 2);
    }

    private void joinedMustComeOut() {
        edge.sentence("it must COME OUT");
        together(withPurses(Edge.twoThings(), 1, 4), 10, 0, 1);
        together(withPurses(Edge.twoThings(), 1, 1), 0, 0, 1);
        together(withPurses(Edge.twoThings(), 1, 2), 5, 0, 0);
        together(withPurses(Edge.twoThings(), 1, 17), 32, 0, 1);
    }

    private void stockAnew() {
        edge.sentence("for each group STOCK is there anew");
        together(withPurses(Edge.twoThings(), 17, 17, 17, 17), 128, 0, 1, 2, 3);
        together(onlyOut(2, 1, 1, 1, 1), 10, 0, 0, 2, 2);
    }

    private void mostTogether() {
        edge.sentence("so that WORTHS of all BEST BASKETS together are most");
        together(withPurses(Edge.twoThings(), 4, 4), 20, 0, 1);
        together(withPurses(Edge.twoThings(), 5, -1, 2), 15, 0, Edge.UNKNOWN, 0);
        EvenPurse x = new EvenPurse();
        x.thing(0, 2, 1, 1, 0);
        x.thing(1, 4, 1, 99, 0);
        together(withPurses(x, 2, 2), 99, 0, 0);
        x.thing(1, 4, 1, 2, 0);
        together(x, 2, 0, 1);
        x.thing(1, 4, 1, 3, 0);
        together(x, 3, 0, 0);
    }

    private void severalPartings() {
        edge.sentence("Of several: PURSE 0's group is least as bits");
        together(many(1, 1, 1, 1, 1), 4, 0, 1, 2, 3);
        together(onlyOut(2, 1, 1, 1, 1), 10, 0, 0, 2, 2);
        together(onlyOut(2, 1, 1, 1), 5, 0, 1, 1);
        together(onlyOut(3, 1, 2, 2), 5, 0, 0, 2);
        together(onlyOut(3, 1, -1, 2, 2), 5, 0, Edge.UNKNOWN, 0, 3);
        edge.sentence("least as bits: 0, 1, 2 ahead of 0, 3");
        together(onlyOut(6, 1, 2, 3, 5), 5, 0, 0, 0, 3);
        edge.sentence("then that of the least PURSE that is not in it, and so on");
        together(onlyOut(2, 2, 1, 1, 1), 10, 0, 1, 2, 2);
        together(onlyOut(3, 3, 1, 2, 2), 10, 0, 1, 1, 3);
        together(onlyOut(4, 1, 3, 1, 3), 10, 0, 0, 2, 2);
        together(onlyOut(4, 3, 3, 1, 1), 10, 0, 1, 0, 1);
        together(onlyOut(4, 2, 3, 1, 2), 10, 0, 1, 1, 0);
        edge.sentence("PURSES that there are, where PURSE 0 is none");
        together(onlyOut(2, -1, 1, 1, 1), 5, Edge.UNKNOWN, 1, 2, 2);
        together(onlyOut(3, -1, 1, 2, 2), 5, Edge.UNKNOWN, 1, 1, 3);
        edge.sentence("with whom a PURSE goes: the least number of its group");
        together(onlyOut(4, 1, 1, 1, 1), 5, 0, 0, 0, 0);
        together(onlyOut(3, -1, 1, 1, 1), 5, Edge.UNKNOWN, 1, 1, 1);
        together(onlyOut(4, 9, 1, 9, 3), 5, 0, 1, 2, 1);
        edge.sentence("a PURSE of 0 pence goes alone where it adds nothing");
        together(onlyOut(4, 0, 4, 0, 0), 5, 0, 1, 2, 3);
        together(onlyOut(4, 0, 0, 0, 0), 0, 0, 1, 2, 3);
    }

    // ---- promise 16

    private void promise16() {
        unknownPays();
        edge.sentence("the fewest pence (0 or more)");
        pays(Edge.twoThings(), 17, 17, 0);
        pays(Edge.twoThings(), 0, 0, 0);
        pays(Edge.twoThings(), 5, 2, 1);
        pays(Edge.twoThings(), 2, 5, 2);
        pays(Edge.twoThings(), 17, 2, 4);
        edge.sentence("that one PURSE gives: all that it has, and no more");
        pays(Edge.twoThings(), 2, 1, 2);
        pays(Edge.twoThings(), 1, 2, 1);
        pays(Edge.twoThings(), 1, 1, Edge.NONE);
        pays(Edge.twoThings(), 0, 2, Edge.NONE);
        pays(many(37), 500, 499, 19);
        edge.sentence("neither above 999");
        pays(many(37), 1, 998, 1);
        pays(many(37), 38, 961, 1);
        pays(many(50), 1, 999, Edge.NONE);
        pays(many(50), 51, 949, 1);
        pays(many(50), 51, 999, Edge.NONE);
        pays(many(50), 999, 1, 49);
        edge.sentence("NONE: by none");
        pays(Edge.twoThings(), 2, 17, Edge.NONE);
        pays(new EvenPurse(), 1, 0, Edge.NONE);
        pays(new EvenPurse(), 999, 999, Edge.NONE);
        pays(new EvenPurse(), 0, 0, 0);
    }

    /** Whichever two purses hold these sums. */
    private void pays(EvenPurse x, int giver, int taker, int want) {
        for (int one = 0; one < 4; one++) {
            for (int other = 0; other < 4; other++) {
                if (one != other) {
                    Edge.purses(x, -1, -1, -1, -1);
                    x.purse(one, giver);
                    x.purse(other, taker);
                    due("pays(" + one + ", " + other + ") of " + giver + " and " + taker, x.pays(one, other), want);
                }
            }
        }
    }

    private void unknownPays() {
        edge.sentence("UNKNOWN: also both are one");
        for (int purse = 0; purse < 4; purse++) {
            int one = purse;
            edge.refused("pays(" + one + ", " + one + ")", x -> x.pays(one, one), Edge.UNKNOWN);
        }
        edge.sentence("pays: UNKNOWN (there is no such PURSE)");
        int[] noPurses = {-1, 4, Edge.LOWEST, Edge.HIGHEST};
        for (int none : noPurses) {
            edge.refused("pays(0, " + none + ")", x -> x.pays(0, none), Edge.UNKNOWN);
            edge.refused("pays(" + none + ", 0)", x -> x.pays(none, 0), Edge.UNKNOWN);
            edge.refused("pays(" + none + ", " + none + ")", x -> x.pays(none, none), Edge.UNKNOWN);
        }
        edge.refused("pays(0, 1), 1 is none", x -> x.pays(0, 1), Edge.UNKNOWN, Edge.State.NEW, Edge.State.BUSY);
        edge.refused("pays(1, 0), 1 is none", x -> x.pays(1, 0), Edge.UNKNOWN, Edge.State.NEW, Edge.State.BUSY);
        edge.sentence("pays: PURSES 0 to 3 that there are");
        EvenPurse x = Edge.State.PACKED.make();
        due("pays(1, 0)", x.pays(1, 0) == Edge.UNKNOWN ? 1 : 0, 0);
        due("pays(3, 2)", x.pays(3, 2) == Edge.UNKNOWN ? 1 : 0, 0);
        due("pays(0, 3)", x.pays(0, 3) == Edge.UNKNOWN ? 1 : 0, 0);
    }

    // ---- promise 17

    private void promise17() {
        edge.sentence("wage: OUTSIDE.");
        edge.bounds("wage(#, 999, 0)", 0, 999, Edge.OUTSIDE, (x, n) -> x.wage(n, 999, 0));
        edge.bounds("wage(0, #, 0)", 0, 999, Edge.OUTSIDE, (x, n) -> x.wage(0, n, 0));
        edge.bounds("wage(0, 9, #)", 0, 1, Edge.OUTSIDE, (x, n) -> x.wage(0, 9, n));
        edge.sentence("wage: a span that ends ahead of its beginning");
        edge.refused("wage(1, 0, 0)", x -> x.wage(1, 0, 0), Edge.OUTSIDE);
        edge.refused("wage(999, 998, 1)", x -> x.wage(999, 998, 1), Edge.OUTSIDE);
        edge.sentence("the SUM of a span whose BEST BASKET is worth most; how much");
        int[][] rows = {{0, 999, 17, 32}, {0, 17, 17, 32}, {0, 16, 14, 27}, {17, 17, 17, 32}, {17, 999, 17, 32},
            {0, 0, 0, 0}, {0, 2, 0, 0}, {3, 3, 3, 5}, {8, 9, 8, 17}, {9, 10, 10, 20}};
        for (int[] row : rows) {
            wage(Edge.twoThings(), row[0], row[1], row[2], row[3]);
        }
        wage(many(37), 0, 999, 999, 27);
        wage(many(37), 999, 999, 999, 27);
        wage(many(37), 0, 998, 962, 26);
        wageLeast();
        edge.sentence("NONE: all are STUCK.");
        int[][] stuck = {{1, 2}, {5, 5}, {12, 12}, {15, 16}, {18, 999}, {999, 999}};
        for (int[] span : stuck) {
            wage(Edge.twoThings(), span[0], span[1], Edge.NONE, Edge.NONE);
        }
    }

    private void wage(EvenPurse x, int from, int to, int sum, int worth) {
        due("wage(" + from + ", " + to + ", 0)", x.wage(from, to, 0), sum);
        due("wage(" + from + ", " + to + ", 1)", x.wage(from, to, 1), worth);
    }

    private void wageLeast() {
        edge.sentence("WAGE: the least");
        wage(Edge.twoThings(), 4, 6, 4, 10);
        wage(Edge.twoThings(), 7, 7, 7, 15);
        wage(Edge.oneThing(2, 3, 9), 0, 999, 0, 0);
        wage(Edge.oneThing(2, 3, 9), 1, 999, 3, 0);
        wage(Edge.oneThing(2, 3, 9), 25, 27, 27, 0);
    }

    // ---- promise 18

    private void promise18() {
        edge.sentence("priced: UNKNOWN");
        edge.bounds("priced(#, 0)", 0, 5, Edge.UNKNOWN, (x, n) -> x.priced(n, 0));
        edge.sentence("priced: OUTSIDE.");
        edge.bounds("priced(0, #)", 0, 1, Edge.OUTSIDE, (x, n) -> x.priced(0, n));
        edge.bounds("priced(5, #)", 0, 1, Edge.OUTSIDE, (x, n) -> x.priced(5, n));
        edge.sentence("the first of these that fits: UNKNOWN ahead of OUTSIDE");
        edge.refused("priced(6, 2)", x -> x.priced(6, 2), Edge.UNKNOWN);
        edge.refused("priced(-1, -1)", x -> x.priced(-1, -1), Edge.UNKNOWN);
        prices1To99();
        leastPrice();
        pricedStuck();
        pricedAlone();
        othersAsTold();
        pricedChangesNothing();
    }

    private void priced(EvenPurse x, int thing, int price, int many) {
        due("priced(" + thing + ", 0)", x.priced(thing, 0), price);
        due("priced(" + thing + ", 1)", x.priced(thing, 1), many);
    }

    private void prices1To99() {
        edge.sentence("the PRICE of a THING (1 to 99)");
        for (int thing = 0; thing < 6; thing++) {
            priced(withPurses(Edge.oneThing(thing, 50, 1), 1), thing, 1, 1);
            priced(withPurses(Edge.oneThing(thing, 50, 1), 99), thing, 99, 1);
            priced(withPurses(Edge.oneThing(thing, 50, 1), 100), thing, 1, 0);
            priced(withPurses(Edge.oneThing(thing, 50, 9), 891), thing, 99, 9);
            priced(withPurses(Edge.oneThing(thing, 50, 9), 900), thing, 1, 0);
        }
    }

    private void leastPrice() {
        edge.sentence("by which most of it are in BEST BASKETS, the least; how many");
        priced(withPurses(Edge.oneThing(2, 9, 1), 10, 20), 2, 10, 1);
        priced(withPurses(Edge.oneThing(2, 9, 2), 10, 20), 2, 10, 3);
        priced(withPurses(Edge.oneThing(2, 9, 9), 12), 2, 2, 6);
        priced(withPurses(Edge.oneThing(2, 9, 9), 9, 9, 9, 9), 2, 1, 36);
        priced(withPurses(Edge.oneThing(2, 9, 0), 9), 2, 1, 0);
        priced(withPurses(Edge.oneThing(2, 9, 9), 0, 0), 2, 1, 0);
    }

    private void pricedStuck() {
        edge.sentence("one that is STUCK by it has 0");
        priced(withPurses(Edge.oneThing(2, 9, 1), 7, 999), 2, 7, 1);
        priced(withPurses(Edge.oneThing(2, 9, 9), 999), 2, 1, 0);
        priced(withPurses(Edge.oneThing(2, 9, 9), -1, -1, -1, 5), 2, 1, 5);
    }

    private void pricedAlone() {
        edge.sentence("of all PURSES (each alone)");
        priced(withPurses(Edge.oneThing(3, 9, 1), 40, 50), 3, 40, 1);
        for (int purse = 0; purse < 4; purse++) {
            EvenPurse x = Edge.oneThing(3, 9, 1);
            x.purse(purse, 33);
            priced(x, 3, 33, 1);
        }
    }

    private void othersAsTold() {
        edge.sentence("others as told");
        EvenPurse x = withPurses(new EvenPurse(), 10);
        x.thing(1, 1, 9, 1, 0);
        x.thing(0, 7, 9, 2, 0);
        priced(x, 0, 1, 9);
        x.thing(0, 7, 9, 0, 0);
        priced(x, 0, 1, 1);
        x.thing(1, 0, 9, 1, 0);
        priced(x, 0, 2, 5);
        x.thing(1, 9, 0, 1, 0);
        priced(x, 0, 2, 5);
        x.thing(1, 9, 1, 99, 0);
        priced(x, 0, 2, 5);
        edge.sentence("most of it in BEST BASKETS, not most that can be bought");
        EvenPurse z = withPurses(new EvenPurse(), 3);
        z.thing(1, 1, 9, 2, 0);
        z.thing(4, 50, 2, 5, 5);
        // By 1: three others 6, one of it and two others 9, two of it and one other 7.
        priced(z, 4, 1, 1);
        edge.sentence("others as told: of several the fewest of THING 0");
        EvenPurse y = withPurses(new EvenPurse(), 6);
        y.thing(1, 1, 6, 0, 0);
        y.thing(0, 9, 9, 0, 0);
        priced(y, 0, 1, 0);
        priced(y, 1, 1, 6);
    }

    private void pricedChangesNothing() {
        edge.sentence("PRICED asks alone: its own PRICE stays");
        for (Edge.State state : Edge.State.values()) {
            EvenPurse x = state.make();
            for (int thing = 0; thing < 6; thing++) {
                x.priced(thing, 0);
            }
            edge.unchanged("priced on " + state, x, state.make());
        }
        edge.sentence("PRICED: of a THING that is not sold, too");
        priced(withPurses(Edge.oneThing(4, 0, 3), 12), 4, 4, 3);
    }

    // ---- promise 19

    private void promise19() {
        edge.sentence("penny: OUTSIDE: also from 0.");
        edge.bounds("penny(#, 999, 0)", 1, 999, Edge.OUTSIDE, (x, n) -> x.penny(n, 999, 0));
        edge.bounds("penny(1, #, 0)", 1, 999, Edge.OUTSIDE, (x, n) -> x.penny(1, n, 0));
        edge.bounds("penny(1, 9, #)", 0, 1, Edge.OUTSIDE, (x, n) -> x.penny(1, 9, n));
        edge.refused("penny(0, 0, 0)", x -> x.penny(0, 0, 0), Edge.OUTSIDE);
        edge.refused("penny(0, 999, 1)", x -> x.penny(0, 999, 1), Edge.OUTSIDE);
        edge.sentence("penny: a span that ends ahead of its beginning");
        edge.refused("penny(2, 1, 0)", x -> x.penny(2, 1, 0), Edge.OUTSIDE);
        edge.refused("penny(999, 998, 1)", x -> x.penny(999, 998, 1), Edge.OUTSIDE);
        pennyOfOne();
        pennyThenStuck();
        pennyBelowZero();
        pennyLeast();
        pennyNone();
    }

    private void penny(EvenPurse x, int from, int to, int sum, int loses) {
        due("penny(" + from + ", " + to + ", 0)", x.penny(from, to, 0), sum);
        due("penny(" + from + ", " + to + ", 1)", x.penny(from, to, 1), loses);
    }

    private void pennyOfOne() {
        edge.sentence("SUMS of a span (from 1 on)");
        penny(many(1), 1, 1, 1, 10001);
        penny(onlyOut(1), 1, 1, 1, 10005);
        penny(onlyOut(1), 1, 999, 1, 10005);
        penny(Edge.twoThings(), 17, 17, 17, 10032);
        penny(many(37), 999, 999, 999, 10027);
    }

    private void pennyThenStuck() {
        edge.sentence("one that is STUCK then loses all");
        penny(Edge.twoThings(), 3, 3, 3, 10005);
        penny(Edge.twoThings(), 4, 4, 4, 10005);
        penny(Edge.twoThings(), 6, 6, 6, 10010);
        penny(Edge.twoThings(), 1, 999, 17, 10032);
        EvenPurse x = new EvenPurse();
        for (int thing = 0; thing < 6; thing++) {
            x.thing(thing, 18, 9, 99, 0);
        }
        penny(x, 1, 999, 972, 15346);
    }

    private void pennyBelowZero() {
        edge.sentence("it may be below 0");
        penny(Edge.twoThings(), 9, 9, 9, 9998);
        EvenPurse x = Edge.oneThing(5, 81, 1);
        for (int thing = 0; thing < 5; thing++) {
            x.thing(thing, 20, 9, 99, 0);
        }
        penny(x, 901, 901, 901, 10000 - 4 * 99);
        edge.sentence("it loses nothing: 10000");
        penny(Edge.oneThing(2, 1, 9), 1, 999, 1, 10000);
    }

    private void pennyLeast() {
        edge.sentence("PENNY: the least");
        penny(Edge.twoThings(), 3, 4, 3, 10005);
        penny(many(1), 1, 27, 1, 10001);
        penny(many(1), 5, 999, 5, 10001);
        penny(Edge.twoThings(), 8, 10, 10, 10005);
        penny(Edge.twoThings(), 7, 10, 7, 10005);
    }

    private void pennyNone() {
        edge.sentence("penny: NONE: all are STUCK.");
        int[][] stuck = {{1, 2}, {5, 5}, {12, 12}, {15, 16}, {18, 18}, {18, 999}, {999, 999}};
        for (int[] span : stuck) {
            penny(Edge.twoThings(), span[0], span[1], Edge.NONE, Edge.NONE);
        }
    }
}
