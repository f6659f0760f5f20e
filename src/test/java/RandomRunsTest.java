/** Long runs of drawn calls, each answer compared with SlowTown's. The draws are the same every time. */
public final class RandomRunsTest {
    private static final int RUNS = 600;
    // The document promises nothing after the 512th call; a step makes at most eight calls.
    private static final int LAST_STEP = 512 - 8;

    private final Due due = new Due();
    private long state;
    // How many baskets a run's things may make, so that looking at all of them stays bearable.
    private long limit;
    private int[] stocks = new int[6];
    private int calls;

    public static void main(String[] args) {
        RandomRunsTest test = new RandomRunsTest();
        for (int run = 0; run < RUNS && !test.due.anyWrong(); run++) {
            test.run(run);
        }
        test.due.end();
    }

    private int draw(int below) {
        state = state * 6364136223846793005L + 1442695040888963407L;
        return (int) ((state >>> 33) % below);
    }

    private int drawn(int least, int most) {
        return least + draw(most - least + 1);
    }

    /** Mostly within the bounds; now and then at them or just outside. */
    private int number(int least, int most) {
        switch (draw(16)) {
            case 0: return least;
            case 1: return most;
            case 2: return draw(3) == 0 ? least - 1 : least;
            case 3: return draw(3) == 0 ? most + 1 : most;
            case 4: return draw(30) == 0 ? Integer.MIN_VALUE : drawn(least, most);
            case 5: return draw(30) == 0 ? Integer.MAX_VALUE : drawn(least, most);
            default: return drawn(least, most);
        }
    }

    private int sum() {
        return draw(3) == 0 ? number(0, 999) : number(0, draw(2) == 0 ? 60 : 250);
    }

    private void run(int run) {
        state = run * 7919L + 17;
        limit = run % 50 == 49 ? 200000 : 3000;
        stocks = new int[6];
        calls = 0;
        EvenPurse purse = new EvenPurse();
        SlowTown slow = new SlowTown();
        while (calls <= LAST_STEP && !due.anyWrong()) {
            // Things first and often at the beginning, so that there is something to ask for.
            int kind = calls < 6 && run % 9 != 0 ? 0 : draw(26);
            call(run, kind, purse, slow);
        }
    }

    private void call(int run, int kind, EvenPurse x, SlowTown y) {
        if (kind < 9) {
            changes(run, kind, x, y);
        } else if (kind < 18) {
            sums(run, kind, x, y);
        } else {
            others(run, kind, x, y);
        }
    }

    private void compare(int run, String call, int got, int want) {
        calls++;
        due.due("run " + run + ": " + call, got, want);
    }

    private int allowedStock(int thing, int stock) {
        long others = 1;
        for (int t = 0; t < 6; t++) {
            if (t != thing) {
                others *= stocks[t] + 1;
            }
        }
        int allowed = stock;
        while (allowed > 0 && allowed <= 9 && others * (allowed + 1) > limit) {
            allowed--;
        }
        return allowed;
    }

    private void changes(int run, int kind, EvenPurse x, SlowTown y) {
        switch (kind) {
            case 0: {
                int thing = number(0, 5);
                int price = draw(8) == 0 ? 0 : draw(3) == 0 ? number(0, 99) : number(1, 20);
                int stock = allowedStock(thing, number(0, 9));
                int worth = draw(3) == 0 ? number(0, 99) : number(0, 9);
                int less = draw(2) == 0 ? number(0, 99) : number(0, 3);
                int got = x.thing(thing, price, stock, worth, less);
                compare(run, "thing(" + thing + ", " + price + ", " + stock + ", " + worth + ", " + less + ")", got,
                        y.thing(thing, price, stock, worth, less));
                if (got == 1) {
                    stocks[thing] = stock;
                }
                break;
            }
            case 1:
            case 2: {
                int sign = draw(8) == 0 ? number(33, 126) : 'a' + draw(6);
                compare(run, "say(" + sign + ")", x.say(sign), y.say(sign));
                break;
            }
            case 3:
                if (draw(12) == 0) {
                    compare(run, "wipe()", x.wipe(), y.wipe());
                }
                compare(run, "fault()", x.fault(), y.fault());
                break;
            case 4: {
                int purse = number(0, 3);
                int sum = draw(3) == 0 ? number(-1, 999) : number(-1, 120);
                compare(run, "purse(" + purse + ", " + sum + ")", x.purse(purse, sum), y.purse(purse, sum));
                break;
            }
            case 5: {
                int thing = number(0, 5);
                int n = draw(2) == 0 ? number(0, 9) : number(0, 2);
                int how = number(0, 1);
                compare(run, "seen(" + thing + ", " + n + ", " + how + ")", x.seen(thing, n, how), y.seen(thing, n, how));
                break;
            }
            case 6:
                if (draw(3) == 0) {
                    compare(run, "forget()", x.forget(), y.forget());
                }
                break;
            case 7: {
                int n = number(0, 1);
                compare(run, "image(" + n + ")", x.image(n), y.image(n));
                break;
            }
            default: {
                int n = number(0, 1);
                compare(run, "restore(" + n + ")", x.restore(n), y.restore(n));
                for (int t = 0; t < 6; t++) {
                    stocks[t] = y.told(10 * (1 + t) + 1);
                }
                break;
            }
        }
    }

    private void sums(int run, int kind, EvenPurse x, SlowTown y) {
        int a = sum();
        int b = sum();
        int i = number(-1, draw(2) == 0 ? 6 : 60);
        int what = number(0, 1);
        switch (kind) {
            case 9:
                compare(run, "basket(" + (what + 1) + ")", x.basket(what + 1), y.basket(what + 1));
                compare(run, "basket(" + what + ")", x.basket(what), y.basket(what));
                break;
            case 10:
                compare(run, "ways(" + a + ")", x.ways(a), y.ways(a));
                break;
            case 11: {
                int which = number(-1, 5);
                compare(run, "best(" + a + ", " + which + ")", x.best(a, which), y.best(a, which));
                break;
            }
            case 12:
                compare(run, "stuck(" + a + ", " + b + ", " + i + ")", x.stuck(a, b, i), y.stuck(a, b, i));
                break;
            case 13:
                compare(run, "near(" + a + ", " + what + ")", x.near(a, what), y.near(a, what));
                break;
            case 14:
                compare(run, "endless(" + what + ")", x.endless(what), y.endless(what));
                break;
            case 15:
                compare(run, "pins(" + a + ")", x.pins(a), y.pins(a));
                break;
            case 16: {
                int wage = draw(2) == 0 ? number(1, 999) : number(1, 20);
                compare(run, "weeks(" + a + ", " + wage + ")", x.weeks(a, wage), y.weeks(a, wage));
                break;
            }
            default:
                compare(run, "fits(" + a + ", " + b + ", " + i + ")", x.fits(a, b, i), y.fits(a, b, i));
                break;
        }
    }

    private void others(int run, int kind, EvenPurse x, SlowTown y) {
        int a = sum();
        int b = sum();
        int what = number(0, 1);
        switch (kind) {
            case 18:
            case 19: {
                for (int purse = -2; purse <= 4; purse++) {
                    compare(run, "together(" + purse + ")", x.together(purse), y.together(purse));
                }
                break;
            }
            case 20: {
                int one = number(0, 3);
                int other = number(0, 3);
                compare(run, "pays(" + one + ", " + other + ")", x.pays(one, other), y.pays(one, other));
                break;
            }
            case 21:
                compare(run, "wage(" + a + ", " + b + ", " + what + ")", x.wage(a, b, what), y.wage(a, b, what));
                break;
            case 22: {
                int thing = number(0, 5);
                compare(run, "priced(" + thing + ", " + what + ")", x.priced(thing, what), y.priced(thing, what));
                break;
            }
            case 23:
                compare(run, "penny(" + a + ", " + b + ", " + what + ")", x.penny(a, b, what), y.penny(a, b, what));
                break;
            case 24:
                compare(run, "row(" + a + ")", x.row(a), y.row(a));
                break;
            default: {
                int seed = number(0, 9999);
                int m = number(1, 99);
                compare(run, "year(" + seed + ", " + m + ", " + what + ")", x.year(seed, m, what), y.year(seed, m, what));
                for (int n = 0; n < 6; n++) {
                    int told = draw(3) == 0 ? number(0, 5) : number(10, 64);
                    compare(run, "told(" + told + ")", x.told(told), y.told(told));
                }
                break;
            }
        }
    }
}
