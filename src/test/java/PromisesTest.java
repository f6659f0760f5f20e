/** Each promise of the document by itself, with answers worked out by hand: ordinary inputs, edges, refusals. */
public final class PromisesTest {
    private static final int UNKNOWN = -1, OUTSIDE = -2, STATE = -3, FULL = -4, NO = -5, NONE = -6, ENDLESS = -7;
    private static final int LOWEST = Integer.MIN_VALUE, HIGHEST = Integer.MAX_VALUE;

    private final Due due = new Due();
    private int promise;

    public static void main(String[] args) {
        PromisesTest test = new PromisesTest();
        test.things();
        test.sums();
        test.purses();
        test.theRest();
        test.due.end();
    }

    private void due(String call, int got, int want) {
        due.due("promise " + promise + ": " + call, got, want);
    }

    private void things() {
        promise1NewObject();
        promise2Thing();
        promise3Say();
        promise4Wipe();
        promise5Fault();
        promise6Basket();
    }

    private void sums() {
        promise7Ways();
        promise8Best();
        promise9Stuck();
        promise10Near();
        promise11Endless();
        promise12Pins();
        promise13Weeks();
    }

    private void purses() {
        promise14Purse();
        promise15TogetherWorths();
        promise15TogetherOfSeveral();
        promise16Pays();
        promise17Wage();
        promise18Priced();
        promise19Penny();
    }

    private void theRest() {
        promise20Seen();
        promise21Forget();
        promise22Fits();
        promise23Row();
        promise24Year();
        promise25Image();
        promise26Restore();
        promise27Told();
    }

    /** Comes to 0 3 4 6 7 8 9 10 11 13 14 17, worth 0 5 10 10 15 17 15 20 22 25 27 32. */
    private static EvenPurse twoThings() {
        EvenPurse x = new EvenPurse();
        x.thing(0, 4, 2, 10, 3);
        x.thing(1, 3, 3, 5, 0);
        return x;
    }

    private static void sayAll(EvenPurse x, String signs) {
        for (int i = 0; i < signs.length(); i++) {
            x.say(signs.charAt(i));
        }
    }

    private void promise1NewObject() {
        promise = 1;
        EvenPurse x = new EvenPurse();
        due("ways(0)", x.ways(0), 1);
        due("stuck(0, 999, -1)", x.stuck(0, 999, -1), 999);
        due("told(0)", x.told(0), 0);
        due("told(1)", x.told(1), 0);
        for (int purse = 0; purse < 4; purse++) {
            due("told(" + (2 + purse) + ")", x.told(2 + purse), -1);
        }
        for (int thing = 0; thing < 6; thing++) {
            for (int which = 0; which < 4; which++) {
                due("told " + thing + " " + which, x.told(10 * (1 + thing) + which), 0);
            }
        }
        due("restore(0)", x.restore(0), STATE);
        due("restore(1)", x.restore(1), STATE);
        EvenPurse sold = twoThings();
        due("another object's", sold.ways(7), 1);
        due("its own", x.ways(7), 0);
    }

    private void promise2Thing() {
        promise = 2;
        EvenPurse x = new EvenPurse();
        due("thing(0, 0, 0, 0, 0)", x.thing(0, 0, 0, 0, 0), 1);
        due("thing(5, 99, 9, 99, 99)", x.thing(5, 99, 9, 99, 99), 1);
        int[][] unknown = {{-1, 0, 0, 0, 0}, {6, 0, 0, 0, 0}, {LOWEST, 0, 0, 0, 0}, {HIGHEST, 0, 0, 0, 0},
            {6, 100, 10, 100, 100}};
        for (int[] a : unknown) {
            due("thing(" + a[0] + ", ..)", x.thing(a[0], a[1], a[2], a[3], a[4]), UNKNOWN);
        }
        int[][] outside = {{5, -1, 0, 0, 0}, {5, 100, 0, 0, 0}, {5, 1, -1, 0, 0}, {5, 1, 10, 0, 0}, {5, 1, 1, -1, 0},
            {5, 1, 1, 100, 0}, {5, 1, 1, 1, -1}, {5, 1, 1, 1, 100}, {5, LOWEST, 1, 1, 1}, {5, 1, HIGHEST, 1, 1}};
        for (int[] a : outside) {
            due("thing outside", x.thing(a[0], a[1], a[2], a[3], a[4]), OUTSIDE);
        }
        due("price stays", x.told(60), 99);
        due("stock stays", x.told(61), 9);
        due("worth stays", x.told(62), 99);
        due("less stays", x.told(63), 99);
        due("out at 891", x.ways(891), 1);
        due("thing(5, 0, 9, 99, 99)", x.thing(5, 0, 9, 99, 99), 1);
        due("not sold", x.ways(891), 0);
        due("thing(5, 99, 1, 9, 0)", x.thing(5, 99, 1, 9, 0), 1);
        due("sold again", x.best(99, -1), 9);
        due("thing(5, 99, 1, 8, 0)", x.thing(5, 99, 1, 8, 0), 1);
        due("worth less now", x.best(99, -1), 8);
    }

    private void promise3Say() {
        promise = 3;
        EvenPurse x = new EvenPurse();
        int[] outside = {32, 127, 0, -1, LOWEST, HIGHEST, 97 + 256};
        for (int sign : outside) {
            due("say(" + sign + ")", x.say(sign), OUTSIDE);
        }
        due("say(33)", x.say(33), 1);
        due("say(126)", x.say(126), 2);
        for (int n = 3; n <= 40; n++) {
            due("say(97)", x.say(97), n);
        }
        due("the 41st", x.say(97), FULL);
        due("outside and full", x.say(32), OUTSIDE);
        due("nothing changed", x.told(0), 40);
    }

    private void promise4Wipe() {
        promise = 4;
        EvenPurse x = new EvenPurse();
        due("wipe()", x.wipe(), 0);
        sayAll(x, "zz");
        due("wipe()", x.wipe(), 2);
        due("wipe()", x.wipe(), 0);
        due("fault()", x.fault(), NONE);
        due("say(97)", x.say(97), 1);
        sayAll(x, "aaaaaaaaaaaaaaaaaaaaaaaaaaaaaaaaaaaaaaaaaaa");
        due("a full one", x.wipe(), 40);
    }

    private void promise5Fault() {
        promise = 5;
        EvenPurse x = twoThings();
        due("of none", x.fault(), NONE);
        String[] texts = {"a", "ab", "abb", "abbba", "babab", "aaa", "bbbb", "abbbba", "c", "abg", "ab`", "A", "ab!cc", "f"};
        int[] faults = {NONE, NONE, NONE, NONE, NONE, 2, 3, 4, 0, 2, 2, 0, 2, 0};
        for (int i = 0; i < texts.length; i++) {
            x.wipe();
            sayAll(x, texts[i]);
            due("fault() of " + texts[i], x.fault(), faults[i]);
        }
        x.wipe();
        sayAll(x, "abf");
        due("f is not sold", x.fault(), 2);
        x.thing(5, 1, 0, 1, 1);
        due("f is sold out", x.fault(), 2);
        x.thing(5, 1, 1, 1, 1);
        due("f is sold", x.fault(), NONE);
        x.thing(0, 0, 9, 1, 1);
        due("a is not sold any more", x.fault(), 0);
    }

    private void promise6Basket() {
        promise = 6;
        EvenPurse x = twoThings();
        for (int what = 0; what < 3; what++) {
            due("the empty basket, " + what, x.basket(what), 0);
        }
        sayAll(x, "aba");
        due("basket(0)", x.basket(0), 11);
        due("basket(1)", x.basket(1), 22);
        due("basket(2)", x.basket(2), 3);
        int[] outside = {-1, 3, LOWEST, HIGHEST};
        for (int what : outside) {
            due("basket(" + what + ")", x.basket(what), OUTSIDE);
        }
        x.thing(0, 99, 9, 5, 4);
        sayAll(x, "a");
        due("worths not below 0", x.basket(1), 5 + 1 + 0 + 5);
        sayAll(x, "g");
        for (int what = 0; what < 3; what++) {
            due("with a fault, " + what, x.basket(what), NO);
        }
        due("outside ahead of no", x.basket(3), OUTSIDE);
        x.wipe();
        x.thing(1, 99, 9, 99, 0);
        sayAll(x, "aaaaaaaaabbbbbbbbb");
        due("above 999", x.basket(0), 1782);
        due("its worth", x.basket(1), 6 + 9 * 99);
    }

    private void promise7Ways() {
        promise = 7;
        EvenPurse x = new EvenPurse();
        x.thing(0, 2, 3, 0, 0);
        x.thing(1, 3, 2, 0, 0);
        int[] ways = {1, 0, 1, 1, 1, 1, 2, 1, 1, 1, 1, 0, 1, 0};
        for (int sum = 0; sum < ways.length; sum++) {
            due("ways(" + sum + ")", x.ways(sum), ways[sum]);
        }
        for (int thing = 0; thing < 6; thing++) {
            x.thing(thing, 1, 9, 99, 0);
        }
        due("ways(27)", x.ways(27), 55252);
        due("ways(54)", x.ways(54), 1);
        due("ways(55)", x.ways(55), 0);
        for (int thing = 0; thing < 6; thing++) {
            x.thing(thing, 37, 9, 0, 0);
        }
        due("ways(999)", x.ways(999), 55252);
        due("ways(-1)", x.ways(-1), OUTSIDE);
        due("ways(1000)", x.ways(1000), OUTSIDE);
        due("ways(lowest)", x.ways(LOWEST), OUTSIDE);
        due("ways(highest)", x.ways(HIGHEST), OUTSIDE);
    }

    private void promise8Best() {
        promise = 8;
        EvenPurse x = twoThings();
        int[] sums = {0, 3, 4, 6, 7, 8, 9, 10, 11, 13, 14, 17};
        int[] worths = {0, 5, 10, 10, 15, 17, 15, 20, 22, 25, 27, 32};
        for (int i = 0; i < sums.length; i++) {
            due("best(" + sums[i] + ", -1)", x.best(sums[i], -1), worths[i]);
        }
        due("best(17, 0)", x.best(17, 0), 2);
        due("best(17, 1)", x.best(17, 1), 3);
        due("best(17, 5)", x.best(17, 5), 0);
        int[] noThings = {-2, 6, LOWEST, HIGHEST};
        for (int i : noThings) {
            due("best(17, " + i + ")", x.best(17, i), NONE);
            due("best(1000, " + i + ")", x.best(1000, i), OUTSIDE);
        }
        due("best(5, -1)", x.best(5, -1), NONE);
        due("best(-1, 0)", x.best(-1, 0), OUTSIDE);
        EvenPurse y = new EvenPurse();
        for (int thing = 0; thing < 6; thing++) {
            y.thing(thing, 1, 2, 7, 0);
        }
        int[] fewest = {0, 0, 1, 2, 2, 2};
        for (int thing = 0; thing < 6; thing++) {
            due("of several, " + thing, y.best(7, thing), fewest[thing]);
        }
        y.thing(0, 1, 1, 8, 0);
        due("more worth ahead of fewest", y.best(7, 0), 1);
        due("its worth", y.best(7, -1), 50);
        for (int thing = 0; thing < 6; thing++) {
            y.thing(thing, 18, 9, 99 - thing, 1);
        }
        due("all there is", y.best(972, -1), 9 * (99 + 98 + 97 + 96 + 95 + 94) - 6 * 36);
        due("nine of 0", y.best(972, 0), 9);
        due("nine of 5", y.best(972, 5), 9);
        EvenPurse z = new EvenPurse();
        z.thing(0, 1, 9, 0, 0);
        z.thing(2, 3, 9, 0, 0);
        z.thing(4, 2, 1, 0, 0);
        due("nothing is worth anything, 0", z.best(5, 0), 0);
        due("nothing is worth anything, 2", z.best(5, 2), 1);
        due("nothing is worth anything, 4", z.best(5, 4), 1);
        due("nothing is worth anything", z.best(5, -1), 0);
    }

    private void promise9Stuck() {
        promise = 9;
        EvenPurse x = twoThings();
        int[] stuck = {1, 2, 5, 12, 15, 16, 18, 19};
        for (int i = 0; i < stuck.length; i++) {
            due("stuck(0, 19, " + i + ")", x.stuck(0, 19, i), stuck[i]);
        }
        due("stuck(0, 19, -1)", x.stuck(0, 19, -1), 8);
        due("stuck(0, 19, 8)", x.stuck(0, 19, 8), NONE);
        due("stuck(0, 19, -2)", x.stuck(0, 19, -2), NONE);
        due("stuck(0, 19, lowest)", x.stuck(0, 19, LOWEST), NONE);
        due("stuck(0, 19, highest)", x.stuck(0, 19, HIGHEST), NONE);
        due("stuck(6, 11, -1)", x.stuck(6, 11, -1), 0);
        due("stuck(6, 11, 0)", x.stuck(6, 11, 0), NONE);
        due("stuck(5, 5, -1)", x.stuck(5, 5, -1), 1);
        due("stuck(3, 5, 0)", x.stuck(3, 5, 0), 5);
        due("stuck(999, 999, 0)", x.stuck(999, 999, 0), 999);
        int[][] outside = {{-1, 5}, {0, 1000}, {5, 4}, {1000, 1000}, {LOWEST, HIGHEST}};
        for (int[] span : outside) {
            due("stuck(" + span[0] + ", " + span[1] + ", -2)", x.stuck(span[0], span[1], -2), OUTSIDE);
        }
    }

    private void promise10Near() {
        promise = 10;
        EvenPurse x = twoThings();
        int[][] rows = {{0, 0, 0}, {1, 0, 3}, {2, 0, 3}, {3, 3, 3}, {5, 4, 6}, {12, 11, 13}, {16, 14, 17}, {17, 17, 17},
            {18, 17, NONE}, {999, 17, NONE}};
        for (int[] row : rows) {
            due("near(" + row[0] + ", 0)", x.near(row[0], 0), row[1]);
            due("near(" + row[0] + ", 1)", x.near(row[0], 1), row[2]);
        }
        EvenPurse y = new EvenPurse();
        y.thing(2, 37, 9, 0, 0);
        y.thing(3, 74, 9, 0, 0);
        due("up to 999", y.near(963, 1), 999);
        due("at 999", y.near(999, 1), 999);
        due("below 999", y.near(998, 0), 962);
        int[][] outside = {{-1, 0}, {1000, 1}, {5, -1}, {5, 2}, {HIGHEST, LOWEST}};
        for (int[] row : outside) {
            due("near(" + row[0] + ", " + row[1] + ")", x.near(row[0], row[1]), OUTSIDE);
        }
    }

    private void promise11Endless() {
        promise = 11;
        endless(new int[] {}, ENDLESS, ENDLESS);
        endless(new int[] {1}, NONE, 0);
        endless(new int[] {7}, ENDLESS, ENDLESS);
        endless(new int[] {5, 1}, NONE, 0);
        endless(new int[] {4, 3}, 5, 3);
        endless(new int[] {3, 4}, 5, 3);
        endless(new int[] {5, 7, 11}, 13, 8);
        endless(new int[] {6, 10, 15}, 29, 15);
        endless(new int[] {6, 9, 20}, 43, 22);
        endless(new int[] {6, 9, 21}, ENDLESS, ENDLESS);
        endless(new int[] {98, 99}, 98 * 99 - 98 - 99, 97 * 98 / 2);
        endless(new int[] {99, 97, 97}, 97 * 99 - 97 - 99, 96 * 98 / 2);
        EvenPurse x = new EvenPurse();
        x.thing(3, 2, 0, 0, 0);
        x.thing(5, 5, 0, 0, 0);
        due("of stock 0, too", x.endless(0), 3);
        due("how many", x.endless(1), 2);
        x.thing(5, 0, 9, 0, 0);
        due("when it is not sold any more", x.endless(1), ENDLESS);
        int[] outside = {-1, 2, LOWEST, HIGHEST};
        for (int what : outside) {
            due("endless(" + what + ")", x.endless(what), OUTSIDE);
        }
    }

    private void endless(int[] prices, int greatest, int many) {
        EvenPurse x = new EvenPurse();
        for (int i = 0; i < prices.length; i++) {
            x.thing(5 - i, prices[i], i % 2, 1, 1);
        }
        String told = java.util.Arrays.toString(prices);
        due("endless(0) of " + told, x.endless(0), greatest);
        due("endless(1) of " + told, x.endless(1), many);
    }

    private void promise12Pins() {
        promise = 12;
        EvenPurse x = twoThings();
        int[][] rows = {{0, 0}, {1, 1}, {2, 2}, {3, 0}, {5, 1}, {12, 1}, {16, 2}, {18, 1}, {116, 99}, {117, NONE}, {999, NONE}};
        for (int[] row : rows) {
            due("pins(" + row[0] + ")", x.pins(row[0]), row[1]);
        }
        int[] outside = {-1, 1000, LOWEST, HIGHEST};
        for (int sum : outside) {
            due("pins(" + sum + ")", x.pins(sum), OUTSIDE);
        }
    }

    private void promise13Weeks() {
        promise = 13;
        EvenPurse x = twoThings();
        int[][] rows = {{0, 999, 0}, {5, 1, 1}, {5, 2, 1}, {5, 4, 1}, {5, 7, NONE}, {1, 4, 2}, {12, 1, 1}, {12, 3, NONE},
            {18, 1, NONE}, {16, 999, NONE}};
        for (int[] row : rows) {
            due("weeks(" + row[0] + ", " + row[1] + ")", x.weeks(row[0], row[1]), row[2]);
        }
        EvenPurse y = new EvenPurse();
        y.thing(0, 99, 9, 0, 0);
        y.thing(1, 99, 9, 0, 0);
        due("weeks(1, 1)", y.weeks(1, 1), 98);
        due("up to 990", y.weeks(892, 1), 98);
        due("not above 999", y.weeks(991, 1), NONE);
        due("nor by a leap", y.weeks(991, 98), NONE);
        int[][] outside = {{-1, 1}, {1000, 1}, {5, 0}, {5, 1000}, {5, -1}, {LOWEST, HIGHEST}};
        for (int[] row : outside) {
            due("weeks(" + row[0] + ", " + row[1] + ")", x.weeks(row[0], row[1]), OUTSIDE);
        }
    }

    private void promise14Purse() {
        promise = 14;
        EvenPurse x = new EvenPurse();
        due("purse(0, 0)", x.purse(0, 0), 1);
        due("purse(3, 999)", x.purse(3, 999), 1);
        due("told(2)", x.told(2), 0);
        due("told(5)", x.told(5), 999);
        int[][] refused = {{-1, 0, UNKNOWN}, {4, 0, UNKNOWN}, {4, 1000, UNKNOWN}, {LOWEST, 0, UNKNOWN}, {0, -2, OUTSIDE},
            {3, 1000, OUTSIDE}, {3, LOWEST, OUTSIDE}, {0, HIGHEST, OUTSIDE}};
        for (int[] row : refused) {
            due("purse(" + row[0] + ", " + row[1] + ")", x.purse(row[0], row[1]), row[2]);
        }
        due("told(2) stays", x.told(2), 0);
        due("told(5) stays", x.told(5), 999);
        due("purse(3, -1)", x.purse(3, -1), 1);
        due("told(5) is none", x.told(5), -1);
        due("together(3) is none", x.together(3), UNKNOWN);
        due("together(0)", x.together(0), 0);
    }

    private void together(EvenPurse x, int worths, int... leaders) {
        due("together(-1)", x.together(-1), worths);
        for (int purse = 0; purse < leaders.length; purse++) {
            due("together(" + purse + ")", x.together(purse), leaders[purse]);
        }
    }

    private static void fillPurses(EvenPurse x, int... sums) {
        for (int purse = 0; purse < sums.length; purse++) {
            x.purse(purse, sums[purse]);
        }
    }

    private void promise15TogetherWorths() {
        promise = 15;
        EvenPurse x = twoThings();
        together(x, 0, UNKNOWN, UNKNOWN, UNKNOWN, UNKNOWN);
        int[] unknown = {-2, 4, LOWEST, HIGHEST};
        for (int purse : unknown) {
            due("together(" + purse + ")", x.together(purse), UNKNOWN);
        }
        fillPurses(x, -1, 5, -1, 2);
        together(x, 15, UNKNOWN, 1, UNKNOWN, 1);
        fillPurses(x, -1, 7, -1, 7);
        together(x, 30, UNKNOWN, 1, UNKNOWN, 3);
        fillPurses(x, 4, 4, 5, 1);
        together(x, 30, 0, 1, 2, 2);
        fillPurses(x, 1, 1, 1, 1);
        together(x, 10, 0, 0, 0, 0);
        fillPurses(x, 500, 1, 2, 600);
        together(x, 5, 0, 1, 1, 3);
        x.thing(0, 0, 0, 0, 0);
        x.thing(1, 99, 9, 1, 0);
        x.thing(2, 99, 9, 1, 0);
        fillPurses(x, 500, 490, -1, -1);
        together(x, 10, 0, 0, UNKNOWN, UNKNOWN);
        fillPurses(x, 500, 589, -1, -1);
        together(x, 0, 0, 1, UNKNOWN, UNKNOWN);
    }

    private void promise15TogetherOfSeveral() {
        promise = 15;
        EvenPurse x = new EvenPurse();
        x.thing(0, 2, 1, 5, 0);
        fillPurses(x, 1, 1, 1);
        together(x, 5, 0, 1, 1);
        fillPurses(x, 1, 1, 1, 1);
        together(x, 10, 0, 0, 2, 2);
        fillPurses(x, -1, 1, 1, 1);
        together(x, 5, UNKNOWN, 1, 2, 2);
        fillPurses(x, 2, 0, 0, -1);
        together(x, 5, 0, 1, 2, UNKNOWN);
        x.thing(0, 4, 1, 5, 0);
        fillPurses(x, 1, 3, 3, -1);
        together(x, 5, 0, 0, 2, UNKNOWN);
        fillPurses(x, 1, 3, 1, 3);
        together(x, 10, 0, 0, 2, 2);
        fillPurses(x, 3, 3, 1, 1);
        together(x, 10, 0, 1, 0, 1);
        fillPurses(x, 2, 3, 3, 2);
        together(x, 5, 0, 1, 2, 0);
    }

    private void promise16Pays() {
        promise = 16;
        EvenPurse x = twoThings();
        due("there are none", x.pays(0, 1), UNKNOWN);
        fillPurses(x, 5, 2, 17);
        int[][] rows = {{0, 1, 1}, {1, 0, 2}, {0, 2, NONE}, {2, 0, 3}, {2, 1, 4}, {1, 2, NONE}};
        for (int[] row : rows) {
            due("pays(" + row[0] + ", " + row[1] + ")", x.pays(row[0], row[1]), row[2]);
        }
        fillPurses(x, 17, 17);
        due("none is needed", x.pays(0, 1), 0);
        int[][] unknown = {{0, 0}, {0, 3}, {3, 0}, {3, 3}, {0, 4}, {-1, 0}, {4, 4}, {LOWEST, HIGHEST}};
        for (int[] row : unknown) {
            due("pays(" + row[0] + ", " + row[1] + ")", x.pays(row[0], row[1]), UNKNOWN);
        }
    }

    private void promise17Wage() {
        promise = 17;
        EvenPurse x = twoThings();
        int[][] rows = {{0, 999, 17, 32}, {0, 16, 14, 27}, {0, 12, 11, 22}, {4, 6, 4, 10}, {7, 9, 8, 17}, {9, 9, 9, 15},
            {0, 0, 0, 0}, {0, 2, 0, 0}, {1, 2, NONE, NONE}, {18, 999, NONE, NONE}};
        for (int[] row : rows) {
            due("wage(" + row[0] + ", " + row[1] + ", 0)", x.wage(row[0], row[1], 0), row[2]);
            due("wage(" + row[0] + ", " + row[1] + ", 1)", x.wage(row[0], row[1], 1), row[3]);
        }
        int[][] outside = {{-1, 5, 0}, {0, 1000, 0}, {5, 4, 0}, {1, 2, -1}, {1, 2, 2}, {LOWEST, HIGHEST, 0}};
        for (int[] row : outside) {
            due("wage(" + row[0] + ", " + row[1] + ", " + row[2] + ")", x.wage(row[0], row[1], row[2]), OUTSIDE);
        }
    }

    private void promise18Priced() {
        promise = 18;
        EvenPurse x = new EvenPurse();
        x.thing(0, 0, 3, 1, 0);
        x.purse(0, 10);
        priced(x, 0, 5, 2);
        x.thing(1, 1, 9, 0, 0);
        priced(x, 0, 1, 3);
        x.thing(1, 1, 9, 2, 0);
        priced(x, 0, 1, 1);
        priced(x, 1, 2, 5);
        due("its own price stays", x.told(20), 1);
        due("and is no longer 0 after all", x.told(10), 0);
        x.thing(1, 0, 0, 0, 0);
        x.purse(2, 9);
        priced(x, 0, 3, 3);
        x.purse(3, 9);
        x.purse(1, 0);
        priced(x, 0, 3, 6);
        x.thing(0, 7, 0, 1, 0);
        priced(x, 0, 1, 0);
        EvenPurse y = new EvenPurse();
        y.thing(5, 1, 9, 9, 9);
        priced(y, 5, 1, 0);
        y.purse(3, 99);
        priced(y, 5, 11, 9);
        y.thing(5, 1, 1, 9, 9);
        priced(y, 5, 99, 1);
        int[][] refused = {{-1, 0, UNKNOWN}, {6, 0, UNKNOWN}, {6, 2, UNKNOWN}, {HIGHEST, 0, UNKNOWN}, {0, -1, OUTSIDE},
            {5, 2, OUTSIDE}, {0, LOWEST, OUTSIDE}};
        for (int[] row : refused) {
            due("priced(" + row[0] + ", " + row[1] + ")", y.priced(row[0], row[1]), row[2]);
        }
        due("the price is as it was", y.best(1, 5), 1);
    }

    private void priced(EvenPurse x, int thing, int price, int many) {
        due("priced(" + thing + ", 0)", x.priced(thing, 0), price);
        due("priced(" + thing + ", 1)", x.priced(thing, 1), many);
    }

    private void promise19Penny() {
        promise = 19;
        EvenPurse x = twoThings();
        int[][] rows = {{1, 999, 17, 10032}, {1, 16, 13, 10025}, {1, 11, 6, 10010}, {3, 4, 3, 10005}, {9, 9, 9, 9998},
            {8, 9, 8, 10002}, {7, 7, 7, 10005}, {1, 2, NONE, NONE}, {18, 999, NONE, NONE}};
        for (int[] row : rows) {
            due("penny(" + row[0] + ", " + row[1] + ", 0)", x.penny(row[0], row[1], 0), row[2]);
            due("penny(" + row[0] + ", " + row[1] + ", 1)", x.penny(row[0], row[1], 1), row[3]);
        }
        int[][] outside = {{0, 5, 0}, {-1, 5, 0}, {1, 1000, 0}, {5, 4, 0}, {1, 2, -1}, {1, 2, 2}, {LOWEST, HIGHEST, 0}};
        for (int[] row : outside) {
            due("penny(" + row[0] + ", " + row[1] + ", " + row[2] + ")", x.penny(row[0], row[1], row[2]), OUTSIDE);
        }
        EvenPurse y = new EvenPurse();
        y.thing(0, 1, 9, 0, 0);
        due("worth nothing", y.penny(1, 20, 0), 1);
        due("loses nothing", y.penny(1, 20, 1), 10000);
    }

    private void promise20Seen() {
        promise = 20;
        EvenPurse x = new EvenPurse();
        due("seen(0, 0, 0)", x.seen(0, 0, 0), 1);
        due("seen(5, 9, 1)", x.seen(5, 9, 1), 2);
        int[][] refused = {{-1, 0, 0, UNKNOWN}, {6, 0, 0, UNKNOWN}, {6, 10, 2, UNKNOWN}, {0, -1, 0, OUTSIDE},
            {0, 10, 0, OUTSIDE}, {0, 0, -1, OUTSIDE}, {0, 0, 2, OUTSIDE}, {0, LOWEST, HIGHEST, OUTSIDE}};
        for (int[] row : refused) {
            due("seen(" + row[0] + ", " + row[1] + ", " + row[2] + ")", x.seen(row[0], row[1], row[2]), row[3]);
        }
        due("nothing changed", x.told(1), 2);
        for (int n = 3; n <= 6; n++) {
            due("seen(1, 1, 0)", x.seen(1, 1, 0), n);
        }
        due("the seventh", x.seen(1, 1, 0), FULL);
        due("outside ahead of full", x.seen(1, 10, 0), OUTSIDE);
        due("unknown ahead of full", x.seen(6, 1, 0), UNKNOWN);
        due("there are six", x.told(1), 6);
    }

    private void promise21Forget() {
        promise = 21;
        EvenPurse x = twoThings();
        due("forget()", x.forget(), 0);
        x.seen(0, 1, 0);
        x.seen(0, 2, 0);
        due("none fits both", x.fits(0, 20, -1), 0);
        due("forget()", x.forget(), 2);
        due("told(1)", x.told(1), 0);
        due("all that come out fit", x.fits(0, 20, -1), 12);
        due("forget()", x.forget(), 0);
        due("seen(0, 2, 0)", x.seen(0, 2, 0), 1);
        due("those of two a", x.fits(0, 20, -1), 4);
    }

    private void promise22Fits() {
        promise = 22;
        EvenPurse x = twoThings();
        due("without sights", x.fits(0, 999, -1), 12);
        x.seen(0, 1, 0);
        int[] one = {4, 7, 10, 13};
        due("just one", x.fits(0, 999, -1), 4);
        for (int i = 0; i < one.length; i++) {
            due("fits(0, 999, " + i + ")", x.fits(0, 999, i), one[i]);
        }
        due("fits(0, 999, 4)", x.fits(0, 999, 4), NONE);
        due("fits(0, 999, -2)", x.fits(0, 999, -2), NONE);
        due("fits(7, 10, -1)", x.fits(7, 10, -1), 2);
        due("fits(8, 13, 0)", x.fits(8, 13, 0), 10);
        x.seen(1, 1, 1);
        due("and more than one", x.fits(0, 999, -1), 2);
        due("the first", x.fits(0, 999, 0), 10);
        due("the second", x.fits(0, 999, 1), 13);
        x.forget();
        x.seen(5, 0, 0);
        due("none of what is not sold", x.fits(0, 999, -1), 12);
        x.seen(5, 0, 1);
        due("more than none of it", x.fits(0, 999, -1), 0);
        due("no such one", x.fits(0, 999, 0), NONE);
        int[][] outside = {{-1, 5}, {0, 1000}, {5, 4}, {LOWEST, HIGHEST}};
        for (int[] span : outside) {
            due("fits(" + span[0] + ", " + span[1] + ", -2)", x.fits(span[0], span[1], -2), OUTSIDE);
        }
    }

    private void promise23Row() {
        promise = 23;
        EvenPurse x = new EvenPurse();
        due("nothing is sold, 0", x.row(0), 1);
        due("nothing is sold, 1", x.row(1), 0);
        x.thing(2, 5, 1, 0, 0);
        x.thing(3, 5, 1, 0, 0);
        due("row(5)", x.row(5), 2);
        due("row(10)", x.row(10), 1);
        due("row(15)", x.row(15), 0);
        x.thing(0, 1, 2, 0, 0);
        x.thing(1, 1, 2, 0, 0);
        due("parts, not baskets", x.row(2), 1);
        due("ways of it", x.ways(2), 3);
        x.thing(5, 1, 9, 0, 0);
        due("row(2)", x.row(2), 3);
        x.thing(5, 0, 9, 0, 0);
        due("row(2) again", x.row(2), 1);
        int[] outside = {-1, 1000, LOWEST, HIGHEST};
        for (int sum : outside) {
            due("row(" + sum + ")", x.row(sum), OUTSIDE);
        }
    }

    private void promise24Year() {
        promise = 24;
        // From 0: x is 74, 5624, 28652 (421874 less 6 times 65537): 74, 24, 52 pence.
        EvenPurse x = new EvenPurse();
        x.thing(0, 74, 1, 9, 0);
        x.thing(1, 24, 1, 5, 0);
        int[][] rows = {{1, 1, 9}, {2, 2, 14}, {3, 2, 14}};
        for (int[] row : rows) {
            due("year(0, " + row[0] + ", 0)", x.year(0, row[0], 0), row[1]);
            due("year(0, " + row[0] + ", 1)", x.year(0, row[0], 1), row[2]);
        }
        x.thing(2, 52, 1, 1, 0);
        due("year(0, 3, 0)", x.year(0, 3, 0), 3);
        due("year(0, 3, 1)", x.year(0, 3, 1), 15);
        // From 9999: 749999 less 11 times 65537 is 29092: 92 pence.
        x.thing(3, 92, 1, 30, 0);
        due("year(9999, 1, 1)", x.year(9999, 1, 1), 30);
        due("sums up to 199 alone", x.year(9999, 99, 0) <= 99 ? 1 : 0, 1);
        int[][] outside = {{-1, 1, 0}, {10000, 1, 0}, {0, 0, 0}, {0, 100, 0}, {0, 1, -1}, {0, 1, 2}, {LOWEST, HIGHEST, 0}};
        for (int[] row : outside) {
            due("year(" + row[0] + ", " + row[1] + ", " + row[2] + ")", x.year(row[0], row[1], row[2]), OUTSIDE);
        }
    }

    private void promise25Image() {
        promise = 25;
        EvenPurse x = twoThings();
        int[] outside = {-1, 2, LOWEST, HIGHEST};
        for (int n : outside) {
            due("image(" + n + ")", x.image(n), OUTSIDE);
        }
        due("none was kept", x.restore(0), STATE);
        x.purse(1, 7);
        x.seen(0, 1, 1);
        due("image(1)", x.image(1), 1);
        due("0 was not kept", x.restore(0), STATE);
        x.thing(0, 9, 9, 9, 9);
        x.purse(1, -1);
        x.forget();
        due("image(0)", x.image(0), 1);
        due("restore(1)", x.restore(1), 1);
        due("the thing", x.told(10), 4);
        due("the purse", x.told(3), 7);
        due("the sights", x.told(1), 1);
        due("the sight", x.fits(0, 999, -1), 4);
        due("restore(0)", x.restore(0), 1);
        due("the other thing", x.told(10), 9);
        due("no purse", x.told(3), -1);
        due("no sight", x.told(1), 0);
        due("image(1) again", x.image(1), 1);
        x.thing(0, 8, 8, 8, 8);
        due("restore(1)", x.restore(1), 1);
        due("what was kept last", x.told(10), 9);
    }

    private void promise26Restore() {
        promise = 26;
        EvenPurse x = twoThings();
        int[] outside = {-1, 2, LOWEST, HIGHEST};
        for (int n : outside) {
            due("restore(" + n + ")", x.restore(n), OUTSIDE);
        }
        due("restore(0)", x.restore(0), STATE);
        due("nothing changed", x.ways(7), 1);
        sayAll(x, "ab");
        x.image(0);
        sayAll(x, "a");
        x.thing(0, 7, 9, 1, 1);
        due("out by the new price", x.best(7, -1), 1);
        due("row by the new price", x.row(14), 1);
        due("restore(0)", x.restore(0), 1);
        due("out by the old price", x.best(7, -1), 15);
        due("ways by the old price", x.ways(14), 1);
        due("row by the old price", x.row(12), 0);
        due("endless by the old price", x.endless(0), 5);
        due("the pad stays", x.told(0), 3);
        x.seen(0, 1, 0);
        x.seen(1, 2, 1);
        due("image(1)", x.image(1), 1);
        x.forget();
        x.seen(5, 9, 1);
        x.seen(4, 9, 1);
        x.thing(0, 4, 2, 10, 10);
        due("restore(1)", x.restore(1), 1);
        due("the sights as they were", x.fits(0, 999, 0), 13);
        due("less as it was", x.told(13), 3);
        due("and is by the old price", x.basket(0), 11);
        x.thing(0, 0, 0, 0, 0);
        due("restore(0) once more", x.restore(0), 1);
        due("it was kept on", x.told(10), 4);
        x.thing(0, 5, 5, 5, 5);
        x.restore(0);
        due("what came later is not in the image", x.told(11), 2);
    }

    private void promise27Told() {
        promise = 27;
        EvenPurse x = new EvenPurse();
        for (int thing = 0; thing < 6; thing++) {
            x.thing(thing, 10 + thing, 1 + thing, 20 + thing, 30 + thing);
        }
        fillPurses(x, 0, 1, 2, 999);
        sayAll(x, "xyz");
        x.seen(0, 0, 0);
        due("told(0)", x.told(0), 3);
        due("told(1)", x.told(1), 1);
        int[] sums = {0, 1, 2, 999};
        for (int purse = 0; purse < 4; purse++) {
            due("told(" + (2 + purse) + ")", x.told(2 + purse), sums[purse]);
        }
        for (int thing = 0; thing < 6; thing++) {
            due("price of " + thing, x.told(10 * (1 + thing)), 10 + thing);
            due("stock of " + thing, x.told(10 * (1 + thing) + 1), 1 + thing);
            due("worth of " + thing, x.told(10 * (1 + thing) + 2), 20 + thing);
            due("less of " + thing, x.told(10 * (1 + thing) + 3), 30 + thing);
        }
        int[] outside = {-1, 6, 7, 8, 9, 14, 15, 19, 24, 59, 64, 69, 70, 71, 100, -10, LOWEST, HIGHEST};
        for (int what : outside) {
            due("told(" + what + ")", x.told(what), OUTSIDE);
        }
    }
}
