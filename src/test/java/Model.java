import java.math.BigInteger;
import java.util.ArrayList;
import java.util.Arrays;
import java.util.List;
import java.util.TreeSet;

/** The document's words taken as they stand, by trying everything: slow, and written apart from the program. */
final class Model {
    private static final class Thing {
        int low;
        int high;
        int one;
        int other;
        int price;
        Integer[] costs = new Integer[8];

        Thing copy() {
            Thing t = new Thing();
            t.low = low;
            t.high = high;
            t.one = one;
            t.other = other;
            t.price = price;
            t.costs = costs.clone();
            return t;
        }
    }

    private static final class State {
        List<Thing> things = new ArrayList<>();
        boolean[] there = new boolean[8];
        int kind;
        int k;

        State copy() {
            State s = new State();
            for (Thing t : things) {
                s.things.add(t.copy());
            }
            s.there = there.clone();
            s.kind = kind;
            s.k = k;
            return s;
        }
    }

    private State now = new State();
    private List<Integer> choices = listChoices(now);
    private final State[] images = new State[3];
    private final int[] sorts = new int[4];
    private final int[][] sheets = new int[4][];
    private int status;
    // the vertices of the box are gone through once for each state
    private int[] rues;
    private int alwaysBits;
    private int sureBits;
    private int mayBits;

    private int say(int answer) {
        status = 0;
        rues = null;
        return answer;
    }

    private int no(int why) {
        status = why;
        return why;
    }

    private boolean adopt(State next) {
        List<Integer> listed = listChoices(next);
        if (listed.size() > 500) {
            return false;
        }
        now = next;
        choices = listed;
        return true;
    }

    private static boolean wrongCost(int v) {
        return v < 0 || v > 1000;
    }

    private boolean noThing(int t) {
        return t < 0 || t >= now.things.size();
    }

    private boolean noChoice(int c) {
        return c < 0 || c >= choices.size();
    }

    private boolean beyond(int bits) {
        return bits < 0 || bits >= 1 << now.things.size();
    }

    private boolean thereIs(int w) {
        return w >= 0 && w < 8 && now.there[w];
    }

    int thing(int low, int high) {
        if (wrongCost(low) || wrongCost(high) || low > high) {
            return no(-1);
        }
        if (now.things.size() == 12) {
            return no(-5);
        }
        State next = now.copy();
        Thing t = new Thing();
        t.low = low;
        t.high = high;
        Arrays.fill(t.costs, 0);
        next.things.add(t);
        return adopt(next) ? say(now.things.size() - 1) : no(-5);
    }

    int ends(int thing, int low, int high) {
        if (wrongCost(low) || wrongCost(high) || low > high) {
            return no(-1);
        }
        if (noThing(thing)) {
            return no(-2);
        }
        now.things.get(thing).low = low;
        now.things.get(thing).high = high;
        return say(0);
    }

    int posts(int thing, int one, int other) {
        if (one < 0 || one > 5 || other < 0 || other > 5) {
            return no(-1);
        }
        if (noThing(thing)) {
            return no(-2);
        }
        State next = now.copy();
        next.things.get(thing).one = one;
        next.things.get(thing).other = other;
        return adopt(next) ? say(0) : no(-5);
    }

    int price(int thing, int v) {
        if (wrongCost(v)) {
            return no(-1);
        }
        if (noThing(thing)) {
            return no(-2);
        }
        int was = now.things.get(thing).price;
        now.things.get(thing).price = v;
        return say(was);
    }

    int kind(int kind, int k) {
        boolean fine = kind == 0 && k >= 0 && k <= 12 || kind == 1 && k >= 1 && k <= 5
            || kind == 2 && k >= 1 && k <= 6 || kind == 3 && k >= 0 && k <= 6;
        if (!fine) {
            return no(-1);
        }
        State next = now.copy();
        next.kind = kind;
        next.k = k;
        return adopt(next) ? say(choices.size()) : no(-5);
    }

    int sheet(int s, int sort, int n) {
        if (s < 0 || s > 3 || sort < 0 || sort > 2 || n > 100) {
            return no(-1);
        }
        if (n < 0) {
            sheets[s] = null;
            return no(-4);
        }
        sheets[s] = new int[n];
        sorts[s] = sort;
        return say(n);
    }

    int write(int s, int i, int v) {
        if (s < 0 || s > 3) {
            return no(-1);
        }
        if (sheets[s] == null) {
            return no(-2);
        }
        if (i < 0 || i >= sheets[s].length) {
            return no(-3);
        }
        int away = sorts[s] == 0 ? 24 : sorts[s] == 1 ? 16 : 0;
        sheets[s][i] = v << away >> away;
        return say(0);
    }

    int world(int w, int s, int from) {
        if (w < 0 || w > 7 || s < 0 || s > 3 || from < 0) {
            return no(-1);
        }
        List<Integer> numbers = new ArrayList<>();
        for (int t = 0; t < now.things.size(); t++) {
            long place = (long) from + t;
            numbers.add(sheets[s] != null && place < sheets[s].length ? sheets[s][(int) place] : 0);
        }
        for (int v : numbers) {
            if (wrongCost(v)) {
                return no(-1);
            }
        }
        for (int t = 0; t < now.things.size(); t++) {
            now.things.get(t).costs[w] = numbers.get(t);
        }
        now.there[w] = true;
        return say(count(2));
    }

    int forget(int w) {
        if (w < 0 || w > 7) {
            return no(-1);
        }
        if (!now.there[w]) {
            return no(-2);
        }
        now.there[w] = false;
        return say(0);
    }

    int count(int what) {
        int n = 0;
        switch (what) {
            case 0:
                return now.things.size();
            case 1:
                return choices.size();
            case 2:
                for (boolean b : now.there) {
                    n += b ? 1 : 0;
                }
                return n;
            case 3:
                return now.kind;
            case 4:
                return now.k;
            case 5:
                for (int[] row : sheets) {
                    n += row != null ? 1 : 0;
                }
                return n;
            default:
                return -1;
        }
    }

    int choice(int c) {
        return noChoice(c) ? -1 : choices.get(c);
    }

    int find(int bits) {
        return choices.indexOf(bits);
    }

    int of(int thing, int what) {
        if (noThing(thing)) {
            return -1;
        }
        Thing t = now.things.get(thing);
        int[] all = {t.low, t.high, t.one, t.other, t.price};
        if (what >= 0 && what < 5) {
            return all[what];
        }
        return what >= 10 && what <= 17 && now.there[what - 10] ? t.costs[what - 10] : -1;
    }

    private int sum(int bits, int high) {
        int sum = 0;
        for (int t = 0; t < now.things.size(); t++) {
            if ((bits >> t & 1) == 1) {
                sum += (high >> t & 1) == 1 ? now.things.get(t).high : now.things.get(t).low;
            }
        }
        return sum;
    }

    int cost(int c, int high) {
        return noChoice(c) || beyond(high) ? -1 : sum(choices.get(c), high);
    }

    int cheapest(int high) {
        if (beyond(high)) {
            return -1;
        }
        if (choices.isEmpty()) {
            return -6;
        }
        int[] row = new int[choices.size()];
        for (int c = 0; c < row.length; c++) {
            row[c] = sum(choices.get(c), high);
        }
        return firstOfLeast(row);
    }

    private static int firstOfLeast(int[] row) {
        int least = Arrays.stream(row).min().getAsInt();
        for (int c = 0; ; c++) {
            if (row[c] == least) {
                return c;
            }
        }
    }

    private void goThroughVertices() {
        if (rues != null) {
            return;
        }
        rues = new int[choices.size()];
        int all = 1 << now.things.size();
        alwaysBits = all - 1;
        sureBits = all - 1;
        mayBits = 0;
        int[] row = new int[choices.size()];
        for (int high = 0; high < all; high++) {
            int least = Integer.MAX_VALUE;
            for (int c = 0; c < row.length; c++) {
                row[c] = sum(choices.get(c), high);
                least = Math.min(least, row[c]);
            }
            int some = 0;
            int every = all - 1;
            for (int c = 0; c < row.length; c++) {
                rues[c] = Math.max(rues[c], row[c] - least);
                if (row[c] == least) {
                    some |= choices.get(c);
                    every &= choices.get(c);
                }
            }
            alwaysBits &= every;
            sureBits &= some;
            mayBits |= some;
        }
    }

    int rue(int c) {
        if (noChoice(c)) {
            return -1;
        }
        goThroughVertices();
        return rues[c];
    }

    int rival(int c) {
        return noChoice(c) ? -1 : cheapest(choices.get(c));
    }

    int best() {
        if (choices.isEmpty()) {
            return -6;
        }
        goThroughVertices();
        return firstOfLeast(rues);
    }

    int many() {
        if (choices.isEmpty()) {
            return 0;
        }
        goThroughVertices();
        int least = Arrays.stream(rues).min().getAsInt();
        return (int) Arrays.stream(rues).filter(r -> r == least).count();
    }

    int middle() {
        if (choices.isEmpty()) {
            return -6;
        }
        int[] row = new int[choices.size()];
        for (int c = 0; c < row.length; c++) {
            row[c] = sum(choices.get(c), 0) + sum(choices.get(c), -1);
        }
        return firstOfLeast(row);
    }

    int hold(int thing) {
        if (noThing(thing)) {
            return -1;
        }
        if (choices.isEmpty()) {
            return 0;
        }
        goThroughVertices();
        int bit = 1 << thing;
        return (alwaysBits & bit) != 0 ? 3 : (sureBits & bit) != 0 ? 2 : (mayBits & bit) != 0 ? 1 : 0;
    }

    int dearest(int c, int k) {
        if (noChoice(c) || k < 0 || k > 12) {
            return -1;
        }
        int most = 0;
        int bits = choices.get(c);
        for (int high = bits; ; high = high - 1 & bits) {
            if (Integer.bitCount(high) <= k) {
                most = Math.max(most, sum(bits, high));
            }
            if (high == 0) {
                return most;
            }
        }
    }

    int few(int k) {
        if (k < 0 || k > 12) {
            return -1;
        }
        if (choices.isEmpty()) {
            return -6;
        }
        int[] row = new int[choices.size()];
        for (int c = 0; c < row.length; c++) {
            row[c] = dearest(c, k);
        }
        return firstOfLeast(row);
    }

    private int sumIn(int w, int bits) {
        int sum = 0;
        for (int t = 0; t < now.things.size(); t++) {
            if ((bits >> t & 1) == 1) {
                sum += now.things.get(t).costs[w];
            }
        }
        return sum;
    }

    private int[] rowIn(int w) {
        int[] row = new int[choices.size()];
        for (int c = 0; c < row.length; c++) {
            row[c] = sumIn(w, choices.get(c));
        }
        return row;
    }

    private int[] ruesIn(int w) {
        int[] row = rowIn(w);
        int least = Arrays.stream(row).min().getAsInt();
        for (int c = 0; c < row.length; c++) {
            row[c] -= least;
        }
        return row;
    }

    int costIn(int w, int c) {
        return !thereIs(w) || noChoice(c) ? -1 : rowIn(w)[c];
    }

    int cheapestIn(int w) {
        if (w < 0 || w > 7) {
            return -1;
        }
        if (!now.there[w]) {
            return -2;
        }
        return choices.isEmpty() ? -6 : firstOfLeast(rowIn(w));
    }

    private int[] greatestRues() {
        int[] most = new int[choices.size()];
        for (int w = 0; w < 8; w++) {
            if (now.there[w]) {
                int[] row = ruesIn(w);
                for (int c = 0; c < most.length; c++) {
                    most[c] = Math.max(most[c], row[c]);
                }
            }
        }
        return most;
    }

    int rueOf(int c) {
        return noChoice(c) || count(2) == 0 ? -1 : greatestRues()[c];
    }

    int bestOf() {
        if (count(2) == 0) {
            return -2;
        }
        return choices.isEmpty() ? -6 : firstOfLeast(greatestRues());
    }

    int front(int v, int w, int i) {
        if (!thereIs(v) || !thereIs(w) || i < -1) {
            return -1;
        }
        int[] a = rowIn(v);
        int[] b = rowIn(w);
        TreeSet<Integer> costs = new TreeSet<>();
        List<Integer> firsts = new ArrayList<>();
        for (int c = 0; c < a.length; c++) {
            boolean good = true;
            for (int d = 0; d < a.length; d++) {
                good &= !(a[d] < a[c] && b[d] <= b[c] || b[d] < b[c] && a[d] <= a[c]);
            }
            if (good && costs.add(a[c])) {
                firsts.add(c);
            }
        }
        firsts.sort((c, d) -> Integer.compare(a[c], a[d]));
        return i == -1 ? firsts.size() : i < firsts.size() ? firsts.get(i) : -1;
    }

    long lots(int v, int w, int what) {
        if (v < 0 || v > 7 || w < 0 || w > 7 || what < 0 || what > 1) {
            return -1;
        }
        if (!thereIs(v) || !thereIs(w)) {
            return -2;
        }
        if (choices.isEmpty()) {
            return -6;
        }
        int[] a = ruesIn(v);
        int[] b = ruesIn(w);
        long over = Long.MAX_VALUE;
        long under = 1;
        for (int c = 0; c < a.length; c++) {
            over = Math.min(over, Math.max(a[c], b[c]));
        }
        for (int c = 0; c < a.length; c++) {
            for (int d = 0; d < a.length; d++) {
                long up = b[c] - a[c];
                long down = a[d] - b[d];
                // c with down parts, d with up parts: both means are the same
                if (up > 0 && down > 0 && (down * a[c] + up * a[d]) * under < over * (up + down)) {
                    over = down * a[c] + up * a[d];
                    under = up + down;
                }
            }
        }
        long common = BigInteger.valueOf(over).gcd(BigInteger.valueOf(under)).longValue();
        return (what == 0 ? over : under) / common;
    }

    private int twoSteps(int bits) {
        int paid = 0;
        for (int t = 0; t < now.things.size(); t++) {
            paid += (bits >> t & 1) == 1 ? now.things.get(t).price : 0;
        }
        int most = 0;
        for (int w = 0; w < 8; w++) {
            if (now.there[w]) {
                int least = Integer.MAX_VALUE;
                for (int set : choices) {
                    least = Math.min(least, sumIn(w, set & ~bits));
                }
                most = Math.max(most, least);
            }
        }
        return paid + most;
    }

    int two(int bits) {
        if (beyond(bits)) {
            return -1;
        }
        if (count(2) == 0) {
            return -2;
        }
        return choices.isEmpty() ? -6 : twoSteps(bits);
    }

    int first() {
        if (count(2) == 0) {
            return -2;
        }
        if (choices.isEmpty()) {
            return -6;
        }
        int[] row = new int[1 << now.things.size()];
        for (int bits = 0; bits < row.length; bits++) {
            row[bits] = twoSteps(bits);
        }
        return firstOfLeast(row);
    }

    int image(int k) {
        if (k < 0 || k > 2) {
            return no(-1);
        }
        images[k] = now.copy();
        return say(0);
    }

    int back(int k) {
        if (k < 0 || k > 2) {
            return no(-1);
        }
        if (images[k] == null) {
            return no(-2);
        }
        adopt(images[k].copy());
        return say(0);
    }

    int status() {
        return status;
    }

    private static List<Integer> listChoices(State s) {
        TreeSet<Integer> sets = new TreeSet<>();
        switch (s.kind) {
            case 0:
                some(s, 0, s.k, 0, sets);
                break;
            case 1:
                ways(s, 0, 1, 0, sets);
                break;
            case 2:
                trees(s, 0, 0, sets);
                break;
            default:
                pairs(s, 0, 0, 0, sets);
                break;
        }
        return new ArrayList<>(sets);
    }

    private static void some(State s, int from, int left, int bits, TreeSet<Integer> sets) {
        if (left == 0) {
            sets.add(bits);
            return;
        }
        for (int t = from; t < s.things.size(); t++) {
            some(s, t + 1, left - 1, bits | 1 << t, sets);
        }
    }

    private static void ways(State s, int at, int seen, int bits, TreeSet<Integer> sets) {
        if (at == s.k) {
            sets.add(bits);
            return;
        }
        for (int t = 0; t < s.things.size(); t++) {
            Thing road = s.things.get(t);
            if (road.one == at && (seen >> road.other & 1) == 0) {
                ways(s, road.other, seen | 1 << road.other, bits | 1 << t, sets);
            }
            if (road.other == at && (seen >> road.one & 1) == 0) {
                ways(s, road.one, seen | 1 << road.one, bits | 1 << t, sets);
            }
        }
    }

    private static void trees(State s, int from, int bits, TreeSet<Integer> sets) {
        if (Integer.bitCount(bits) == s.k - 1) {
            sets.add(bits);
            return;
        }
        for (int t = from; t < s.things.size(); t++) {
            if (!closesRingOrLeaves(s, bits, s.things.get(t))) {
                trees(s, t + 1, bits | 1 << t, sets);
            }
        }
    }

    private static boolean closesRingOrLeaves(State s, int bits, Thing next) {
        if (next.one >= s.k || next.other >= s.k) {
            return true;
        }
        int[] heap = {0, 1, 2, 3, 4, 5};
        for (int t = 0; t < s.things.size(); t++) {
            if ((bits >> t & 1) == 1) {
                int old = heap[s.things.get(t).one];
                int joined = heap[s.things.get(t).other];
                for (int p = 0; p < 6; p++) {
                    heap[p] = heap[p] == old ? joined : heap[p];
                }
            }
        }
        return heap[next.one] == heap[next.other];
    }

    private static void pairs(State s, int post, int used, int bits, TreeSet<Integer> sets) {
        if (post == s.k) {
            sets.add(bits);
            return;
        }
        for (int t = 0; t < s.things.size(); t++) {
            Thing pair = s.things.get(t);
            if (pair.one == post && pair.other < s.k && (used >> pair.other & 1) == 0) {
                pairs(s, post + 1, used | 1 << pair.other, bits | 1 << t, sets);
            }
        }
    }
}
