import java.util.ArrayList;
import java.util.List;

/**
 * The document told again in the slowest and plainest way, to compare the program with: each basket is looked at
 * by itself, each parting of the purses too. It shares no code with the program.
 */
final class SlowTown {
    static final int UNKNOWN = -1, OUTSIDE = -2, STATE = -3, FULL = -4, NO = -5, NONE = -6, ENDLESS = -7;

    private int[][] things = new int[6][4];
    private int[] purses = {-1, -1, -1, -1};
    private List<int[]> sights = new ArrayList<>();
    private final StringBuilder pad = new StringBuilder();
    private final Object[][] images = new Object[2][];

    /** What comes of looking at all baskets. */
    private static final class Baskets {
        final int[] ways = new int[1000];
        final int[] worth = new int[1000];
        final int[][] best = new int[1000][];
    }

    private Baskets known;

    private static int worthOf(int[] thing, int count) {
        int worth = 0;
        for (int j = 0; j < count; j++) {
            int one = thing[2] - j * thing[3];
            worth += one < 0 ? 0 : one;
        }
        return worth;
    }

    private static Baskets lookAtAll(int[][] things) {
        Baskets baskets = new Baskets();
        look(things, 0, new int[6], 0, 0, baskets);
        return baskets;
    }

    // Thing 0 is the outermost and goes upwards, so the first of several best ones is the one that is due.
    private static void look(int[][] things, int at, int[] counts, int sum, int worth, Baskets baskets) {
        if (sum > 999) {
            return;
        }
        if (at == 6) {
            baskets.ways[sum]++;
            if (baskets.best[sum] == null || worth > baskets.worth[sum]) {
                baskets.best[sum] = counts.clone();
                baskets.worth[sum] = worth;
            }
            return;
        }
        int most = things[at][0] == 0 ? 0 : things[at][1];
        for (int n = 0; n <= most; n++) {
            counts[at] = n;
            look(things, at + 1, counts, sum + n * things[at][0], worth + worthOf(things[at], n), baskets);
        }
        counts[at] = 0;
    }

    private Baskets all() {
        if (known == null) {
            known = lookAtAll(things);
        }
        return known;
    }

    private boolean comes(int sum) {
        return sum >= 0 && sum <= 999 && all().best[sum] != null;
    }

    private int worth(int sum) {
        return comes(sum) ? all().worth[sum] : 0;
    }

    private static boolean in(int n, int from, int to) {
        return from <= n && n <= to;
    }

    private static boolean span(int from, int to) {
        return in(from, 0, 999) && in(to, 0, 999) && from <= to;
    }

    int thing(int thing, int price, int stock, int worth, int less) {
        if (!in(thing, 0, 5)) return UNKNOWN;
        if (!in(price, 0, 99) || !in(stock, 0, 9) || !in(worth, 0, 99) || !in(less, 0, 99)) return OUTSIDE;
        things[thing] = new int[] {price, stock, worth, less};
        known = null;
        return 1;
    }

    int say(int sign) {
        if (!in(sign, 33, 126)) return OUTSIDE;
        if (pad.length() == 40) return FULL;
        pad.append((char) sign);
        return pad.length();
    }

    int wipe() {
        int n = pad.length();
        pad.setLength(0);
        return n;
    }

    int fault() {
        for (int i = 0; i < pad.length(); i++) {
            int thing = "abcdef".indexOf(pad.charAt(i));
            if (thing < 0 || things[thing][0] == 0 || countOnPad(thing, i + 1) > things[thing][1]) return i;
        }
        return NONE;
    }

    private int countOnPad(int thing, int signs) {
        int n = 0;
        for (int i = 0; i < signs; i++) {
            if (pad.charAt(i) == "abcdef".charAt(thing)) n++;
        }
        return n;
    }

    int basket(int what) {
        if (!in(what, 0, 2)) return OUTSIDE;
        if (fault() != NONE) return NO;
        int answer = 0;
        for (int thing = 0; thing < 6; thing++) {
            int n = countOnPad(thing, pad.length());
            answer += what == 0 ? n * things[thing][0] : what == 1 ? worthOf(things[thing], n) : n;
        }
        return answer;
    }

    int ways(int sum) {
        return in(sum, 0, 999) ? all().ways[sum] : OUTSIDE;
    }

    int best(int sum, int i) {
        if (!in(sum, 0, 999)) return OUTSIDE;
        if (!comes(sum) || !in(i, -1, 5)) return NONE;
        return i == -1 ? worth(sum) : all().best[sum][i];
    }

    private static int ith(List<Integer> sums, int i) {
        return i == -1 ? sums.size() : in(i, 0, sums.size() - 1) ? sums.get(i) : NONE;
    }

    int stuck(int from, int to, int i) {
        if (!span(from, to)) return OUTSIDE;
        List<Integer> sums = new ArrayList<>();
        for (int s = from; s <= to; s++) {
            if (!comes(s)) sums.add(s);
        }
        return ith(sums, i);
    }

    int near(int sum, int what) {
        if (!in(sum, 0, 999) || !in(what, 0, 1)) return OUTSIDE;
        int s = sum;
        while (in(s, 0, 999) && !comes(s)) s += what == 0 ? -1 : 1;
        return in(s, 0, 999) ? s : NONE;
    }

    int endless(int what) {
        if (!in(what, 0, 1)) return OUTSIDE;
        int size = 20000;
        boolean[] out = new boolean[size];
        out[0] = true;
        for (int s = 1; s < size; s++) {
            for (int[] thing : things) {
                if (thing[0] > 0 && s >= thing[0] && out[s - thing[0]]) out[s] = true;
            }
        }
        int greatest = NONE;
        int many = 0;
        for (int s = 0; s < size; s++) {
            if (!out[s]) {
                greatest = s;
                many++;
            }
        }
        // With prices up to 99 gaps that end at all end below 9604.
        if (greatest > 10000) return ENDLESS;
        return what == 0 ? greatest : many;
    }

    int pins(int sum) {
        if (!in(sum, 0, 999)) return OUTSIDE;
        int below = near(sum, 0);
        return sum - below > 99 ? NONE : sum - below;
    }

    int weeks(int sum, int wage) {
        if (!in(sum, 0, 999) || !in(wage, 1, 999)) return OUTSIDE;
        int week = 0;
        while (week <= 99 && !comes(sum + wage * week)) week++;
        return week > 99 ? NONE : week;
    }

    int purse(int purse, int sum) {
        if (!in(purse, 0, 3)) return UNKNOWN;
        if (!in(sum, -1, 999)) return OUTSIDE;
        purses[purse] = sum;
        return 1;
    }

    private boolean there(int purse) {
        return in(purse, 0, 3) && purses[purse] >= 0;
    }

    /** Each way to give the purses one of four labels is a parting; many come up more than once, which is no harm. */
    int together(int purse) {
        if (purse != -1 && !there(purse)) return UNKNOWN;
        int mostWorth = -1;
        List<Integer> chosen = null;
        for (int labels = 0; labels < 256; labels++) {
            List<Integer> groups = groups(labels);
            int worth = 0;
            for (int group : groups) {
                int one = groupWorth(group);
                worth = one < 0 || worth < 0 ? -1 : worth + one;
            }
            if (worth > mostWorth || worth >= 0 && worth == mostWorth && before(groups, chosen)) {
                mostWorth = worth;
                chosen = groups;
            }
        }
        if (purse == -1) return mostWorth;
        for (int group : chosen) {
            if ((group >> purse & 1) == 1) return Integer.numberOfTrailingZeros(group);
        }
        throw new IllegalStateException("a purse is in no group");
    }

    private List<Integer> groups(int labels) {
        List<Integer> groups = new ArrayList<>();
        int taken = 0;
        for (int p = 0; p < 4; p++) {
            if (!there(p) || (taken >> p & 1) == 1) continue;
            int group = 0;
            for (int q = p; q < 4; q++) {
                if (there(q) && (labels >> 2 * q & 3) == (labels >> 2 * p & 3)) group |= 1 << q;
            }
            taken |= group;
            groups.add(group);
        }
        return groups;
    }

    private int groupWorth(int group) {
        int sum = 0;
        for (int p = 0; p < 4; p++) {
            if ((group >> p & 1) == 1) sum += purses[p];
        }
        if (comes(sum)) return worth(sum);
        return Integer.bitCount(group) == 1 ? 0 : -1;
    }

    private static boolean before(List<Integer> one, List<Integer> other) {
        for (int i = 0; i < one.size() && i < other.size(); i++) {
            if (!one.get(i).equals(other.get(i))) return one.get(i) < other.get(i);
        }
        return false;
    }

    int pays(int purse, int other) {
        if (!there(purse) || !there(other) || purse == other) return UNKNOWN;
        for (int d = 0; d <= purses[purse] && purses[other] + d <= 999; d++) {
            if (comes(purses[purse] - d) && comes(purses[other] + d)) return d;
        }
        return NONE;
    }

    int wage(int from, int to, int what) {
        if (!span(from, to) || !in(what, 0, 1)) return OUTSIDE;
        int sum = NONE;
        for (int s = to; s >= from; s--) {
            if (comes(s) && (sum == NONE || worth(s) >= worth(sum))) sum = s;
        }
        return sum == NONE || what == 0 ? sum : worth(sum);
    }

    int priced(int thing, int what) {
        if (!in(thing, 0, 5)) return UNKNOWN;
        if (!in(what, 0, 1)) return OUTSIDE;
        int most = -1;
        int price = 0;
        int[][] other = things.clone();
        for (int p = 99; p >= 1; p--) {
            other[thing] = things[thing].clone();
            other[thing][0] = p;
            Baskets baskets = lookAtAll(other);
            int bought = 0;
            for (int sum : purses) {
                if (sum >= 0 && baskets.best[sum] != null) bought += baskets.best[sum][thing];
            }
            if (bought >= most) {
                most = bought;
                price = p;
            }
        }
        return what == 0 ? price : most;
    }

    int penny(int from, int to, int what) {
        if (!span(from, to) || from == 0 || !in(what, 0, 1)) return OUTSIDE;
        int sum = NONE;
        int most = 0;
        for (int s = to; s >= from; s--) {
            if (!comes(s)) continue;
            int lost = comes(s - 1) ? worth(s) - worth(s - 1) : worth(s);
            if (sum == NONE || lost >= most) {
                sum = s;
                most = lost;
            }
        }
        return sum == NONE || what == 0 ? sum : most + 10000;
    }

    int seen(int thing, int n, int how) {
        if (!in(thing, 0, 5)) return UNKNOWN;
        if (!in(n, 0, 9) || !in(how, 0, 1)) return OUTSIDE;
        if (sights.size() == 6) return FULL;
        sights.add(new int[] {thing, n, how});
        return sights.size();
    }

    int forget() {
        int n = sights.size();
        sights.clear();
        return n;
    }

    int fits(int from, int to, int i) {
        if (!span(from, to)) return OUTSIDE;
        List<Integer> sums = new ArrayList<>();
        for (int s = from; s <= to; s++) {
            boolean holds = comes(s);
            for (int[] sight : sights) {
                if (!holds) break;
                int n = all().best[s][sight[0]];
                holds = sight[2] == 0 ? n == sight[1] : n > sight[1];
            }
            if (holds) sums.add(s);
        }
        return ith(sums, i);
    }

    int row(int sum) {
        if (!in(sum, 0, 999)) return OUTSIDE;
        int[][] left = things.clone();
        int[][] right = things.clone();
        for (int t = 0; t < 3; t++) {
            left[t + 3] = new int[4];
            right[t] = new int[4];
        }
        Baskets one = lookAtAll(left);
        Baskets other = lookAtAll(right);
        int n = 0;
        for (int part = 0; part <= sum; part++) {
            if (one.ways[part] > 0 && other.ways[sum - part] > 0) n++;
        }
        return n;
    }

    int year(int seed, int m, int what) {
        if (!in(seed, 0, 9999) || !in(m, 1, 99) || !in(what, 0, 1)) return OUTSIDE;
        long x = seed;
        int answer = 0;
        for (int week = 1; week <= m; week++) {
            x = (x * 75 + 74) % 65537;
            int sum = (int) (x % 200);
            if (comes(sum)) answer += what == 0 ? 1 : worth(sum);
        }
        return answer;
    }

    int image(int n) {
        if (!in(n, 0, 1)) return OUTSIDE;
        images[n] = new Object[] {things.clone(), purses.clone(), new ArrayList<>(sights)};
        return 1;
    }

    @SuppressWarnings("unchecked")
    int restore(int n) {
        if (!in(n, 0, 1)) return OUTSIDE;
        if (images[n] == null) return STATE;
        things = ((int[][]) images[n][0]).clone();
        purses = ((int[]) images[n][1]).clone();
        sights = new ArrayList<>((List<int[]>) images[n][2]);
        known = null;
        return 1;
    }

    int told(int what) {
        if (what == 0) return pad.length();
        if (what == 1) return sights.size();
        if (in(what, 2, 5)) return purses[what - 2];
        for (int t = 0; t < 6; t++) {
            for (int k = 0; k < 4; k++) {
                if (what == 10 * (1 + t) + k) return things[t][k];
            }
        }
        return OUTSIDE;
    }
}
