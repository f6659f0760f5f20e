/** What the tests of the edges share: the sentence that is tested, numbers at their bounds, calls that are refused. */
final class Edge {
    static final int UNKNOWN = -1, OUTSIDE = -2, STATE = -3, FULL = -4, NO = -5, NONE = -6, ENDLESS = -7;
    static final int LOWEST = Integer.MIN_VALUE, HIGHEST = Integer.MAX_VALUE;

    interface Call {
        int on(EvenPurse x);
    }

    interface Asked {
        int with(EvenPurse x, int number);
    }

    /** The states that a refused call must leave as they are. */
    enum State {
        NEW, BUSY, PACKED;

        EvenPurse make() {
            EvenPurse x = new EvenPurse();
            if (this == BUSY) {
                makeBusy(x);
            } else if (this == PACKED) {
                makePacked(x);
            }
            return x;
        }
    }

    private final Due due = new Due();
    private String sentence = "";

    /** What is asked from here on tests this sentence of the document. */
    void sentence(String words) {
        sentence = words;
    }

    void due(String call, int got, int want) {
        due.due("\"" + sentence + "\": " + call, got, want);
    }

    void end() {
        due.end();
    }

    /** The call is refused in each of these states (in all of them if none is named), and changes nothing. */
    void refused(String call, Call asked, int refusal, State... states) {
        for (State state : states.length == 0 ? State.values() : states) {
            EvenPurse x = state.make();
            due(call + " on " + state, asked.on(x), refusal);
            unchanged("after " + call + " on " + state, x, state.make());
        }
    }

    /** From least to most the number is taken; the next ones on both sides and the ends of int are refused. */
    void bounds(String call, int least, int most, int refusal, Asked asked) {
        int[] taken = {least, most};
        for (int number : taken) {
            for (State state : State.values()) {
                int got = asked.with(state.make(), number);
                due(call + " takes " + number + " on " + state, got == refusal ? 0 : 1, 1);
            }
        }
        int[] not = {least - 1, most + 1, LOWEST, HIGHEST};
        for (int number : not) {
            refused(call + " with " + number, x -> asked.with(x, number), refusal);
        }
    }

    /** Both answer alike to whatever can be asked. Uses both of them up. */
    void unchanged(String call, EvenPurse one, EvenPurse other) {
        int[] got = answers(one);
        int[] want = answers(other);
        for (int i = 0; i < got.length; i++) {
            due(call + ", answer " + i, got[i], want[i]);
        }
    }

    static void say(EvenPurse x, String signs) {
        for (int i = 0; i < signs.length(); i++) {
            x.say(signs.charAt(i));
        }
    }

    /** A fresh object on whose pad these signs are, with things a (4, two), b (3, three), f (99, nine). */
    static EvenPurse saying(String signs) {
        EvenPurse x = twoThings();
        x.thing(5, 99, 9, 99, 0);
        say(x, signs);
        return x;
    }

    static void purses(EvenPurse x, int... sums) {
        for (int purse = 0; purse < sums.length; purse++) {
            x.purse(purse, sums[purse]);
        }
    }

    /** Comes to 0 3 4 6 7 8 9 10 11 13 14 17, worth 0 5 10 10 15 17 15 20 22 25 27 32. */
    static EvenPurse twoThings() {
        EvenPurse x = new EvenPurse();
        x.thing(0, 4, 2, 10, 3);
        x.thing(1, 3, 3, 5, 0);
        return x;
    }

    /** A town with one thing alone, worth nothing. */
    static EvenPurse oneThing(int thing, int price, int stock) {
        EvenPurse x = new EvenPurse();
        x.thing(thing, price, stock, 0, 0);
        return x;
    }

    private static void makeBusy(EvenPurse x) {
        x.thing(5, 2, 2, 3, 1);
        purses(x, -1, 8, 4, -1);
        x.seen(5, 1, 0);
        x.image(0);
        x.thing(0, 4, 2, 10, 3);
        x.thing(1, 3, 3, 5, 0);
        x.thing(2, 7, 1, 20, 9);
        x.thing(3, 5, 9, 4, 1);
        x.thing(4, 0, 3, 9, 9);
        x.thing(5, 11, 0, 50, 0);
        purses(x, 5, -1, 12, 2);
        x.forget();
        x.seen(0, 1, 0);
        x.seen(3, 0, 1);
        say(x, "abdab");
    }

    private static void makePacked(EvenPurse x) {
        x.thing(0, 9, 9, 1, 0);
        purses(x, 9, 18, 27, 999);
        x.image(0);
        for (int thing = 0; thing < 6; thing++) {
            x.thing(thing, 5 + 6 * thing, 9, 90 - thing, 10 + thing);
            x.seen(thing, 0, thing % 2);
        }
        x.image(1);
        purses(x, 999, 0, 40, 41);
        // The fault is the last sign, a g.
        say(x, "abcdefabcdefabcdefabcdefabcdefabcdefabcg");
    }

    private static int[] answers(EvenPurse x) {
        int[] answers = new int[400];
        int n = tell(x, answers, 0);
        n = askSums(x, answers, n);
        n = askPurses(x, answers, n);
        for (int image = 0; image < 2; image++) {
            answers[n++] = x.restore(image);
            n = tell(x, answers, n);
        }
        answers[n++] = x.seen(0, 0, 0);
        answers[n++] = x.forget();
        answers[n++] = x.fits(0, 999, -1);
        answers[n++] = x.say('a');
        answers[n++] = x.fault();
        answers[n++] = x.wipe();
        return answers;
    }

    /** What a town is by its things, its pad, its purses and its sights. */
    private static int tell(EvenPurse x, int[] answers, int from) {
        int n = from;
        for (int what = 0; what < 6; what++) {
            answers[n++] = x.told(what);
        }
        for (int thing = 1; thing <= 6; thing++) {
            for (int which = 0; which < 4; which++) {
                answers[n++] = x.told(10 * thing + which);
            }
        }
        answers[n++] = x.fault();
        for (int what = 0; what < 3; what++) {
            answers[n++] = x.basket(what);
        }
        answers[n++] = x.fits(0, 999, -1);
        answers[n++] = x.fits(0, 999, 1);
        answers[n++] = x.fits(100, 400, 0);
        return n;
    }

    private static int askSums(EvenPurse x, int[] answers, int from) {
        int n = from;
        int[] sums = {0, 8, 17, 40, 105, 333, 999};
        for (int sum : sums) {
            answers[n++] = x.ways(sum);
            answers[n++] = x.near(sum, 0);
            answers[n++] = x.near(sum, 1);
            answers[n++] = x.pins(sum);
            answers[n++] = x.weeks(sum, 7);
            answers[n++] = x.row(sum);
            for (int i = -1; i < 6; i++) {
                answers[n++] = x.best(sum, i);
            }
        }
        answers[n++] = x.stuck(0, 999, -1);
        answers[n++] = x.stuck(0, 999, 5);
        answers[n++] = x.endless(0);
        answers[n++] = x.endless(1);
        answers[n++] = x.year(3, 50, 0);
        answers[n++] = x.year(3, 50, 1);
        return n;
    }

    private static int askPurses(EvenPurse x, int[] answers, int from) {
        int n = from;
        for (int purse = -1; purse < 4; purse++) {
            answers[n++] = x.together(purse);
        }
        for (int purse = 0; purse < 4; purse++) {
            answers[n++] = x.pays(purse, (purse + 1) % 4);
        }
        for (int what = 0; what < 2; what++) {
            answers[n++] = x.wage(0, 999, what);
            answers[n++] = x.penny(1, 999, what);
            for (int thing = 0; thing < 6; thing++) {
                answers[n++] = x.priced(thing, what);
            }
        }
        return n;
    }
}
