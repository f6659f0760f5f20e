import java.util.Arrays;

/** A town in which a buyer must lay down the whole purse, to the penny, or go. */
public final class EvenPurse {
    public static final int UNKNOWN = -1, OUTSIDE = -2, STATE = -3, FULL = -4, NO = -5, NONE = -6, ENDLESS = -7;

    private static final int THINGS = 6;
    private static final int PURSES = 4;
    private static final int MOST_SIGHTS = 6;
    private static final int MOST_SIGNS = 40;
    private static final int MOST_STOCK = 9;
    private static final int IMAGES = 2;
    private static final int TOP = 999;
    private static final int SUMS = TOP + 1;
    private static final int MOST_PENCE = 99;

    // Things as bits: all of them, those of the first shop, those of the second.
    private static final int ALL_THINGS = 63;
    private static final int FIRST_SHOP = 7;
    private static final int SECOND_SHOP = 56;

    private final Town town = new Town();
    private final Pad pad = new Pad();
    private final Town[] images = new Town[IMAGES];
    private final boolean[] kept = new boolean[IMAGES];

    // What follows is worked out from the town when it is asked for, in rows that are made once.
    private final Shelf all = new Shelf();
    private final Shelf first = new Shelf();
    private final Shelf second = new Shelf();
    private final Tally tally = new Tally();
    private final Boundless boundless = new Boundless();
    private final Parting parting = new Parting();

    public EvenPurse() {
        for (int n = 0; n < images.length; n++) {
            images[n] = new Town();
        }
    }

    // ---- 1 things, baskets

    public int thing(int thing, int price, int stock, int worth, int less) {
        if (!isThing(thing)) {
            return UNKNOWN;
        }
        if (!within(price, 0, MOST_PENCE) || !within(stock, 0, MOST_STOCK)
                || !within(worth, 0, MOST_PENCE) || !within(less, 0, MOST_PENCE)) {
            return OUTSIDE;
        }
        town.setThing(thing, price, stock, worth, less);
        forgetShelves();
        return 1;
    }

    public int say(int sign) {
        if (!within(sign, 33, 126)) {
            return OUTSIDE;
        }
        return pad.add(sign) ? pad.length : FULL;
    }

    public int wipe() {
        int before = pad.length;
        pad.length = 0;
        return before;
    }

    public int fault() {
        return pad.firstWrong(town);
    }

    public int basket(int what) {
        if (!within(what, 0, 2)) {
            return OUTSIDE;
        }
        if (pad.firstWrong(town) != NONE) {
            return NO;
        }
        if (what == 0) {
            return pad.priceIn(town);
        }
        // Without a fault each sign is a thing.
        return what == 1 ? pad.worthIn(town) : pad.length;
    }

    // ---- 2 sums

    public int ways(int sum) {
        if (!isSum(sum)) {
            return OUTSIDE;
        }
        tally.count(town);
        return tally.at(sum);
    }

    public int best(int sum, int i) {
        if (!isSum(sum)) {
            return OUTSIDE;
        }
        Shelf market = market();
        if (!market.comesOut(sum) || !within(i, -1, THINGS - 1)) {
            return NONE;
        }
        return i == -1 ? market.worthAt(sum) : market.countAt(sum, i);
    }

    public int stuck(int from, int to, int i) {
        return isSpan(from, to) ? pick(from, to, i, true) : OUTSIDE;
    }

    public int near(int sum, int what) {
        if (!isSum(sum) || !within(what, 0, 1)) {
            return OUTSIDE;
        }
        return what == 0 ? nearestBelow(sum) : nearestAbove(sum);
    }

    public int endless(int what) {
        if (!within(what, 0, 1)) {
            return OUTSIDE;
        }
        boundless.measure(town);
        if (boundless.leavesGapsForEver()) {
            return ENDLESS;
        }
        if (what == 1) {
            return boundless.stuckSums();
        }
        int greatest = boundless.greatestStuck();
        return greatest < 0 ? NONE : greatest;
    }

    public int pins(int sum) {
        if (!isSum(sum)) {
            return OUTSIDE;
        }
        Shelf market = market();
        for (int pence = 0; pence <= MOST_PENCE; pence++) {
            if (market.comesOut(sum - pence)) {
                return pence;
            }
        }
        return NONE;
    }

    public int weeks(int sum, int wage) {
        if (!isSum(sum) || !within(wage, 1, TOP)) {
            return OUTSIDE;
        }
        Shelf market = market();
        for (int week = 0; week <= 99; week++) {
            if (market.comesOut(sum + week * wage)) {
                return week;
            }
        }
        return NONE;
    }

    // ---- 3 purses

    public int purse(int purse, int sum) {
        if (!within(purse, 0, PURSES - 1)) {
            return UNKNOWN;
        }
        if (!within(sum, -1, TOP)) {
            return OUTSIDE;
        }
        town.purseSum[purse] = sum;
        return 1;
    }

    public int together(int purse) {
        if (purse != -1 && !town.hasPurse(purse)) {
            return UNKNOWN;
        }
        parting.settle(town, market());
        return purse == -1 ? parting.mostWorth() : parting.leastBeside(purse);
    }

    public int pays(int purse, int other) {
        if (!town.hasPurse(purse) || !town.hasPurse(other) || purse == other) {
            return UNKNOWN;
        }
        Shelf market = market();
        int giver = town.purseSum[purse];
        int taker = town.purseSum[other];
        for (int pence = 0; pence <= TOP; pence++) {
            if (market.comesOut(giver - pence) && market.comesOut(taker + pence)) {
                return pence;
            }
        }
        return NONE;
    }

    public int wage(int from, int to, int what) {
        if (!isSpan(from, to) || !within(what, 0, 1)) {
            return OUTSIDE;
        }
        Shelf market = market();
        int bestSum = NONE;
        int bestWorth = NONE;
        for (int sum = from; sum <= to; sum++) {
            // A worth is 0 at least: the first sum that comes out is above NONE.
            if (market.comesOut(sum) && market.worthAt(sum) > bestWorth) {
                bestSum = sum;
                bestWorth = market.worthAt(sum);
            }
        }
        return what == 0 ? bestSum : bestWorth;
    }

    public int priced(int thing, int what) {
        if (!isThing(thing)) {
            return UNKNOWN;
        }
        if (!within(what, 0, 1)) {
            return OUTSIDE;
        }
        // The other things stay as they are by every price, so their shelf is filled once.
        first.fill(town, ALL_THINGS & ~(1 << thing));
        first.weigh(town, thing);
        int bestPrice = 1;
        int mostBought = -1;
        for (int price = 1; price <= MOST_PENCE; price++) {
            int bought = boughtAt(price, town.stock[thing]);
            if (bought > mostBought) {
                bestPrice = price;
                mostBought = bought;
            }
        }
        return what == 0 ? bestPrice : mostBought;
    }

    public int penny(int from, int to, int what) {
        if (!isSpan(from, to) || from < 1 || !within(what, 0, 1)) {
            return OUTSIDE;
        }
        Shelf market = market();
        int worstSum = NONE;
        int mostLost = 0;
        for (int sum = from; sum <= to; sum++) {
            int lost = market.worthAt(sum) - market.worthAt(sum - 1);
            if (market.comesOut(sum) && (worstSum == NONE || lost > mostLost)) {
                worstSum = sum;
                mostLost = lost;
            }
        }
        if (worstSum == NONE) {
            return NONE;
        }
        return what == 0 ? worstSum : mostLost + 10000;
    }

    // ---- 4 sights, rows, years

    public int seen(int thing, int n, int how) {
        if (!isThing(thing)) {
            return UNKNOWN;
        }
        if (!within(n, 0, 9) || !within(how, 0, 1)) {
            return OUTSIDE;
        }
        return town.addSight(thing, n, how) ? town.sights : FULL;
    }

    public int forget() {
        int before = town.sights;
        town.sights = 0;
        return before;
    }

    public int fits(int from, int to, int i) {
        return isSpan(from, to) ? pick(from, to, i, false) : OUTSIDE;
    }

    public int row(int sum) {
        if (!isSum(sum)) {
            return OUTSIDE;
        }
        first.fill(town, FIRST_SHOP);
        second.fill(town, SECOND_SHOP);
        int partings = 0;
        for (int part = 0; part <= sum; part++) {
            if (first.comesOut(part) && second.comesOut(sum - part)) {
                partings++;
            }
        }
        return partings;
    }

    public int year(int seed, int m, int what) {
        if (!within(seed, 0, 9999) || !within(m, 1, 99) || !within(what, 0, 1)) {
            return OUTSIDE;
        }
        Shelf market = market();
        int x = seed;
        int buyers = 0;
        int worths = 0;
        for (int week = 0; week < m; week++) {
            x = (75 * x + 74) % 65537;
            int pence = x % 200;
            if (market.comesOut(pence)) {
                buyers++;
                worths += market.worthAt(pence);
            }
        }
        return what == 0 ? buyers : worths;
    }

    public int image(int n) {
        if (!isImage(n)) {
            return OUTSIDE;
        }
        images[n].copyFrom(town);
        kept[n] = true;
        return 1;
    }

    public int restore(int n) {
        if (!isImage(n)) {
            return OUTSIDE;
        }
        if (!kept[n]) {
            return STATE;
        }
        town.copyFrom(images[n]);
        forgetShelves();
        return 1;
    }

    public int told(int what) {
        if (what == 0) {
            return pad.length;
        }
        if (what == 1) {
            return town.sights;
        }
        if (within(what, 2, 1 + PURSES)) {
            return town.purseSum[what - 2];
        }
        if (!within(what, 10, 10 * THINGS + 3) || what % 10 > 3) {
            return OUTSIDE;
        }
        return town.tellThing(what / 10 - 1, what % 10);
    }

    // ---- what the calls share

    private static boolean within(int number, int least, int most) {
        return number >= least && number <= most;
    }

    private static boolean isThing(int thing) {
        return within(thing, 0, THINGS - 1);
    }

    private static boolean isSum(int sum) {
        return within(sum, 0, TOP);
    }

    private static boolean isSpan(int from, int to) {
        return isSum(from) && isSum(to) && from <= to;
    }

    private static boolean isImage(int n) {
        return within(n, 0, IMAGES - 1);
    }

    private void forgetShelves() {
        all.empty();
        first.empty();
        second.empty();
        tally.empty();
    }

    /** The shelf of all that is sold, as the town is now. */
    private Shelf market() {
        all.fill(town, ALL_THINGS);
        return all;
    }

    /** Of the stuck sums of a span, or else of those that fit the sights: how many (i = -1), the i-th. */
    private int pick(int from, int to, int i, boolean ofStuck) {
        Shelf market = market();
        int picked = 0;
        for (int sum = from; sum <= to; sum++) {
            boolean chosen = ofStuck ? !market.comesOut(sum) : fitsSights(market, sum);
            if (chosen && picked == i) {
                return sum;
            }
            if (chosen) {
                picked++;
            }
        }
        return i == -1 ? picked : NONE;
    }

    private boolean fitsSights(Shelf market, int sum) {
        if (!market.comesOut(sum)) {
            return false;
        }
        for (int sight = 0; sight < town.sights; sight++) {
            if (!town.sightHolds(sight, market, sum)) {
                return false;
            }
        }
        return true;
    }

    private int nearestBelow(int sum) {
        Shelf market = market();
        for (int lower = sum; lower > 0; lower--) {
            if (market.comesOut(lower)) {
                return lower;
            }
        }
        // The empty basket comes to 0.
        return 0;
    }

    private int nearestAbove(int sum) {
        Shelf market = market();
        for (int higher = sum; higher <= TOP; higher++) {
            if (market.comesOut(higher)) {
                return higher;
            }
        }
        return NONE;
    }

    /** How many of the thing that the first shelf has weighed all purses buy, if it has this price. */
    private int boughtAt(int price, int stock) {
        int bought = 0;
        for (int purse = 0; purse < PURSES; purse++) {
            if (town.hasPurse(purse)) {
                bought += first.countBeside(town.purseSum[purse], price, stock);
            }
        }
        return bought;
    }

    /** All that an image keeps: things, purses, sights. */
    private static final class Town {
        private final int[] price = new int[THINGS];
        private final int[] stock = new int[THINGS];
        private final int[] worth = new int[THINGS];
        private final int[] less = new int[THINGS];
        private final int[] purseSum = new int[PURSES];
        private final int[] sightThing = new int[MOST_SIGHTS];
        private final int[] sightCount = new int[MOST_SIGHTS];
        private final int[] sightHow = new int[MOST_SIGHTS];
        private int sights;

        Town() {
            Arrays.fill(purseSum, -1);
        }

        void copyFrom(Town other) {
            System.arraycopy(other.price, 0, price, 0, THINGS);
            System.arraycopy(other.stock, 0, stock, 0, THINGS);
            System.arraycopy(other.worth, 0, worth, 0, THINGS);
            System.arraycopy(other.less, 0, less, 0, THINGS);
            System.arraycopy(other.purseSum, 0, purseSum, 0, PURSES);
            System.arraycopy(other.sightThing, 0, sightThing, 0, MOST_SIGHTS);
            System.arraycopy(other.sightCount, 0, sightCount, 0, MOST_SIGHTS);
            System.arraycopy(other.sightHow, 0, sightHow, 0, MOST_SIGHTS);
            sights = other.sights;
        }

        void setThing(int thing, int newPrice, int newStock, int newWorth, int newLess) {
            price[thing] = newPrice;
            stock[thing] = newStock;
            worth[thing] = newWorth;
            less[thing] = newLess;
        }

        boolean isSold(int thing) {
            return isThing(thing) && price[thing] > 0;
        }

        boolean hasPurse(int purse) {
            return within(purse, 0, PURSES - 1) && purseSum[purse] >= 0;
        }

        /** What so many of a thing are worth together. */
        int worthOf(int thing, int count) {
            int sum = 0;
            for (int j = 0; j < count; j++) {
                sum += Math.max(0, worth[thing] - j * less[thing]);
            }
            return sum;
        }

        boolean addSight(int thing, int n, int how) {
            if (sights >= MOST_SIGHTS) {
                return false;
            }
            sightThing[sights] = thing;
            sightCount[sights] = n;
            sightHow[sights] = how;
            sights++;
            return true;
        }

        boolean sightHolds(int sight, Shelf market, int sum) {
            int count = market.countAt(sum, sightThing[sight]);
            return sightHow[sight] == 0 ? count == sightCount[sight] : count > sightCount[sight];
        }

        int tellThing(int thing, int which) {
            if (which == 0) {
                return price[thing];
            }
            if (which == 1) {
                return stock[thing];
            }
            return which == 2 ? worth[thing] : less[thing];
        }
    }

    /** The signs of a basket that is told. */
    private static final class Pad {
        private final int[] signs = new int[MOST_SIGNS];
        private final int[] counts = new int[THINGS];
        private int length;

        boolean add(int sign) {
            if (length >= MOST_SIGNS) {
                return false;
            }
            signs[length] = sign;
            length++;
            return true;
        }

        /** The place of the fault, or NONE; without one, counts tell the basket from then on. */
        int firstWrong(Town town) {
            Arrays.fill(counts, 0);
            for (int place = 0; place < length; place++) {
                int thing = signs[place] - 'a';
                if (!town.isSold(thing) || counts[thing] >= town.stock[thing]) {
                    return place;
                }
                counts[thing]++;
            }
            return NONE;
        }

        int priceIn(Town town) {
            int sum = 0;
            for (int thing = 0; thing < THINGS; thing++) {
                sum += counts[thing] * town.price[thing];
            }
            return sum;
        }

        int worthIn(Town town) {
            int sum = 0;
            for (int thing = 0; thing < THINGS; thing++) {
                sum += town.worthOf(thing, counts[thing]);
            }
            return sum;
        }
    }

    /** The best basket for each sum, out of some of the things. */
    private static final class Shelf {
        // A basket's rank is its worth times CODES less its counts read as six decimal digits, that of
        // thing 0 first. So ranks add up thing by thing, no two baskets share one, and the greatest is
        // of the most worth and then has the fewest of thing 0, of thing 1, and so on.
        private static final int CODES = 1000000;
        // Below the rank of every basket, even of one that is worth nothing.
        private static final long STUCK = -CODES;
        private static final int NOTHING_FILLED = -1;

        private final long[] ranks = new long[SUMS];
        private final long[] gains = new long[MOST_STOCK + 1];
        private int filledWith = NOTHING_FILLED;
        private int reach;

        void empty() {
            filledWith = NOTHING_FILLED;
        }

        /** Fills the shelf with these things (as bits), unless it holds just them. */
        void fill(Town town, int things) {
            if (filledWith == things) {
                return;
            }
            Arrays.fill(ranks, STUCK);
            ranks[0] = 0;
            reach = 0;
            for (int thing = 0; thing < THINGS; thing++) {
                if ((things >> thing & 1) == 1 && town.isSold(thing)) {
                    weigh(town, thing);
                    addThing(town.price[thing], town.stock[thing]);
                }
            }
            filledWith = things;
        }

        /** Makes ready what so many of this thing add to a rank. */
        void weigh(Town town, int thing) {
            long digit = 1;
            for (int later = thing + 1; later < THINGS; later++) {
                digit *= 10;
            }
            for (int count = 0; count < gains.length; count++) {
                gains[count] = (long) town.worthOf(thing, count) * CODES - count * digit;
            }
        }

        /** How many of the weighed thing are in the best basket of a sum that it makes with this shelf's. */
        int countBeside(int sum, int price, int stock) {
            long most = STUCK;
            int bestCount = 0;
            int rest = sum;
            for (int count = 0; count <= stock && count < gains.length; count++) {
                if (comesOut(rest) && ranks[rest] + gains[count] > most) {
                    most = ranks[rest] + gains[count];
                    bestCount = count;
                }
                rest -= price;
            }
            return bestCount;
        }

        boolean comesOut(int sum) {
            return sum >= 0 && sum < ranks.length && ranks[sum] != STUCK;
        }

        /** The worth of the best basket; 0 where the sum is stuck. */
        int worthAt(int sum) {
            return comesOut(sum) ? worthIn(ranks[sum]) : 0;
        }

        /** How many of a thing are in the best basket; 0 where the sum is stuck. */
        int countAt(int sum, int thing) {
            if (!comesOut(sum)) {
                return 0;
            }
            long code = (long) worthIn(ranks[sum]) * CODES - ranks[sum];
            for (int later = thing + 1; later < THINGS; later++) {
                code /= 10;
            }
            return (int) (code % 10);
        }

        private static int worthIn(long rank) {
            // Rounded up, since the counts were taken off.
            return (int) ((rank + CODES - 1) / CODES);
        }

        private void addThing(int price, int stock) {
            reach = Math.min(TOP, reach + price * stock);
            // Downwards, so that the lower ranks are still those without this thing.
            for (int sum = reach; sum > 0; sum--) {
                ranks[sum] = bestRank(sum, price, stock);
            }
        }

        private long bestRank(int sum, int price, int stock) {
            long most = STUCK;
            int rest = sum;
            for (int count = 0; count <= stock && count < gains.length && rest >= 0; count++) {
                long rank = ranks[rest];
                if (rank != STUCK && rank + gains[count] > most) {
                    most = rank + gains[count];
                }
                rest -= price;
            }
            return most;
        }
    }

    /** How many baskets come to each sum. */
    private static final class Tally {
        private final int[] baskets = new int[SUMS];
        private boolean counted;

        void empty() {
            counted = false;
        }

        int at(int sum) {
            return isSum(sum) ? baskets[sum] : 0;
        }

        void count(Town town) {
            if (counted) {
                return;
            }
            Arrays.fill(baskets, 0);
            baskets[0] = 1;
            for (int thing = 0; thing < THINGS; thing++) {
                if (town.isSold(thing)) {
                    addThing(town.price[thing], town.stock[thing]);
                }
            }
            counted = true;
        }

        private void addThing(int price, int stock) {
            // Upwards as if stock had no end; then downwards without the baskets that hold one too many.
            for (int sum = price; sum < SUMS; sum++) {
                baskets[sum] += baskets[sum - price];
            }
            int tooMany = price * (stock + 1);
            for (int sum = TOP; sum >= tooMany; sum--) {
                baskets[sum] -= baskets[sum - tooMany];
            }
        }
    }

    /** What comes out where stock has no end: by each remainder the least sum that does. */
    private static final class Boundless {
        private static final int NEVER = 1000000;

        private final int[] least = new int[MOST_PENCE];
        // One of the prices, by which remainders are taken; 0 if nothing is sold.
        private int divisor;

        void measure(Town town) {
            divisor = 0;
            for (int thing = 0; thing < THINGS; thing++) {
                if (divisor == 0 && town.isSold(thing)) {
                    divisor = town.price[thing];
                }
            }
            Arrays.fill(least, NEVER);
            least[0] = 0;
            for (int thing = 0; thing < THINGS; thing++) {
                if (town.isSold(thing)) {
                    addPrice(town.price[thing]);
                }
            }
        }

        boolean leavesGapsForEver() {
            for (int remainder = 0; remainder < divisor; remainder++) {
                if (least[remainder] == NEVER) {
                    return true;
                }
            }
            return divisor == 0;
        }

        /** Below 0 if none is stuck. */
        int greatestStuck() {
            int greatest = -1;
            for (int remainder = 0; remainder < divisor; remainder++) {
                greatest = Math.max(greatest, least[remainder] - divisor);
            }
            return greatest;
        }

        int stuckSums() {
            if (divisor <= 0) {
                return 0;
            }
            int sums = 0;
            for (int remainder = 0; remainder < divisor; remainder++) {
                sums += least[remainder] / divisor;
            }
            return sums;
        }

        private void addPrice(int price) {
            int rings = commonDivisor(divisor, price);
            for (int start = 0; start < rings; start++) {
                goRound(start, price);
            }
        }

        private void goRound(int start, int price) {
            if (divisor <= 0) {
                return;
            }
            int at = start;
            // Twice: once to meet the least sum of the ring, once to carry it all the way round.
            for (int step = 0; step < 2 * divisor; step++) {
                int next = (at + price) % divisor;
                least[next] = Math.min(least[next], least[at] + price);
                at = next;
            }
        }

        private static int commonDivisor(int one, int other) {
            for (int tried = one; tried > 1; tried--) {
                if (one % tried == 0 && other % tried == 0) {
                    return tried;
                }
            }
            return 1;
        }
    }

    /** How purses go together, for every set of purses as bits. */
    private static final class Parting {
        private static final int SETS = 1 << PURSES;
        private static final int NOT_ALLOWED = -1;

        private final int[] most = new int[SETS];
        // The group of the least purse of the set.
        private final int[] group = new int[SETS];
        private int present;

        void settle(Town town, Shelf market) {
            present = 0;
            for (int purse = 0; purse < PURSES; purse++) {
                if (town.hasPurse(purse)) {
                    present |= 1 << purse;
                }
            }
            for (int purses = 1; purses < SETS; purses++) {
                if ((purses & ~present) == 0) {
                    settleSet(purses, town, market);
                }
            }
        }

        int mostWorth() {
            return most[present];
        }

        /** The least purse of the group that this one goes in. */
        int leastBeside(int purse) {
            int left = present;
            for (int groups = 0; groups < PURSES; groups++) {
                if ((group[left] >> purse & 1) == 1) {
                    return leastIn(left);
                }
                left &= ~group[left];
            }
            return purse;
        }

        private void settleSet(int purses, Town town, Shelf market) {
            most[purses] = NOT_ALLOWED;
            int least = leastIn(purses);
            // From the least group on, so that of several it stays.
            for (int tried = 1; tried <= purses; tried++) {
                if ((tried & ~purses) == 0 && (tried >> least & 1) == 1) {
                    int worth = groupWorth(tried, town, market);
                    int whole = worth + most[purses & ~tried];
                    if (worth != NOT_ALLOWED && whole > most[purses]) {
                        most[purses] = whole;
                        group[purses] = tried;
                    }
                }
            }
        }

        private static int groupWorth(int purses, Town town, Shelf market) {
            int sum = 0;
            int members = 0;
            for (int purse = 0; purse < PURSES; purse++) {
                if ((purses >> purse & 1) == 1) {
                    sum += town.purseSum[purse];
                    members++;
                }
            }
            if (members > 1 && !market.comesOut(sum)) {
                return NOT_ALLOWED;
            }
            return market.worthAt(sum);
        }

        private static int leastIn(int purses) {
            int least = 0;
            while (least < PURSES - 1 && (purses >> least & 1) == 0) {
                least++;
            }
            return least;
        }
    }
}
