import java.util.Arrays;

/**
 * A bench for choices that are made before one knows which numbers will hold.
 * Words in capitals are those of the document, which says what each call answers.
 */
public final class LeastRue {
    public static final int NONE = -1;

    private static final int CANNOT_BE = -1;
    private static final int NO_SUCH = -2;
    private static final int NO_PLACE = -3;
    private static final int BELOW_ZERO = -4;
    private static final int NO_ROOM = -5;
    private static final int NO_CHOICES = -6;

    private static final int MOST_THINGS = 12;
    private static final int MOST_WORLDS = 8;
    private static final int MOST_POSTS = 6;
    private static final int MOST_SHEETS = 4;
    private static final int MOST_PLACES = 100;
    private static final int MOST_IMAGES = 3;
    private static final int MOST_CHOICES = 500;
    private static final int TOP_COST = 1000;

    private static final int KINDS = 4;
    private static final int WAYS = 1;
    private static final int TREES = 2;
    private static final int PAIRS = 3;
    private static final int[] LEAST_K = {0, 1, 1, 0};
    private static final int[] MOST_K = {12, 5, 6, 6};

    private static final int SORTS = 3;
    private static final int BYTES = 0;
    private static final int SHORTS = 1;

    private static final int FIRST_WORLD_ASKED = 10;

    private final Bench bench;
    private final Choices choices;
    private final Sheet[] sheets;
    private final Bench[] images;
    private final boolean[] kept;
    private final ByEnds byEnds;
    private final ByWorlds byWorlds;
    private final TwoWorlds twoWorlds;
    private final TwoSteps twoSteps;
    private int status;

    public LeastRue() {
        bench = new Bench();
        choices = new Choices();
        choices.relist(bench);
        sheets = new Sheet[MOST_SHEETS];
        for (int s = 0; s < MOST_SHEETS; s++) {
            sheets[s] = new Sheet();
        }
        images = new Bench[MOST_IMAGES];
        for (int k = 0; k < MOST_IMAGES; k++) {
            images[k] = new Bench();
        }
        kept = new boolean[MOST_IMAGES];
        byEnds = new ByEnds(bench, choices);
        byWorlds = new ByWorlds(bench, choices);
        twoWorlds = new TwoWorlds(bench, choices);
        twoSteps = new TwoSteps(bench, choices);
    }

    public int thing(int low, int high) {
        if (!areEnds(low, high)) {
            return refused(CANNOT_BE);
        }
        if (bench.things == MOST_THINGS) {
            return refused(NO_ROOM);
        }
        bench.addThing(low, high);
        if (!choices.relist(bench)) {
            bench.things--;
            return refused(NO_ROOM);
        }
        return accepted(bench.things - 1);
    }

    public int ends(int thing, int low, int high) {
        if (!areEnds(low, high)) {
            return refused(CANNOT_BE);
        }
        if (!isThing(thing)) {
            return refused(NO_SUCH);
        }
        bench.low[thing] = low;
        bench.high[thing] = high;
        return accepted(0);
    }

    public int posts(int thing, int one, int other) {
        if (!isWithin(one, MOST_POSTS) || !isWithin(other, MOST_POSTS)) {
            return refused(CANNOT_BE);
        }
        if (!isThing(thing)) {
            return refused(NO_SUCH);
        }
        int oldOne = bench.one[thing];
        int oldOther = bench.other[thing];
        bench.one[thing] = one;
        bench.other[thing] = other;
        if (!choices.relist(bench)) {
            bench.one[thing] = oldOne;
            bench.other[thing] = oldOther;
            return refused(NO_ROOM);
        }
        return accepted(0);
    }

    public int price(int thing, int v) {
        if (!isCost(v)) {
            return refused(CANNOT_BE);
        }
        if (!isThing(thing)) {
            return refused(NO_SUCH);
        }
        int old = bench.price[thing];
        bench.price[thing] = v;
        return accepted(old);
    }

    public int kind(int kind, int k) {
        if (!isWithin(kind, KINDS) || k < LEAST_K[kind] || k > MOST_K[kind]) {
            return refused(CANNOT_BE);
        }
        int oldKind = bench.kind;
        int oldK = bench.k;
        bench.kind = kind;
        bench.k = k;
        if (!choices.relist(bench)) {
            bench.kind = oldKind;
            bench.k = oldK;
            return refused(NO_ROOM);
        }
        return accepted(choices.size);
    }

    public int sheet(int s, int sort, int n) {
        if (!isWithin(s, MOST_SHEETS) || !isWithin(sort, SORTS) || n > MOST_PLACES) {
            return refused(CANNOT_BE);
        }
        if (n < 0) {
            sheets[s].drop();
            return refused(BELOW_ZERO);
        }
        sheets[s].open(sort, n);
        return accepted(n);
    }

    public int write(int s, int i, int v) {
        if (!isWithin(s, MOST_SHEETS)) {
            return refused(CANNOT_BE);
        }
        if (sheets[s].isMissing()) {
            return refused(NO_SUCH);
        }
        if (!sheets[s].hasPlace(i)) {
            return refused(NO_PLACE);
        }
        sheets[s].put(i, v);
        return accepted(0);
    }

    public int world(int w, int s, int from) {
        if (!isWithin(w, MOST_WORLDS) || !isWithin(s, MOST_SHEETS) || from < 0) {
            return refused(CANNOT_BE);
        }
        if (!holdsCosts(sheets[s], from)) {
            return refused(CANNOT_BE);
        }
        for (int t = 0; t < bench.things; t++) {
            bench.costs[w][t] = sheets[s].numberAt((long) from + t);
        }
        bench.there |= 1 << w;
        return accepted(Integer.bitCount(bench.there));
    }

    public int forget(int w) {
        if (!isWithin(w, MOST_WORLDS)) {
            return refused(CANNOT_BE);
        }
        if (!bench.hasWorld(w)) {
            return refused(NO_SUCH);
        }
        bench.there &= ~(1 << w);
        return accepted(0);
    }

    public int count(int what) {
        switch (what) {
            case 0:
                return bench.things;
            case 1:
                return choices.size;
            case 2:
                return Integer.bitCount(bench.there);
            case 3:
                return bench.kind;
            case 4:
                return bench.k;
            case 5:
                return sheetsThere();
            default:
                return NONE;
        }
    }

    public int choice(int c) {
        return choices.has(c) ? choices.sets[c] : NONE;
    }

    public int find(int bits) {
        for (int c = 0; c < choices.size; c++) {
            if (choices.sets[c] == bits) {
                return c;
            }
        }
        return NONE;
    }

    public int of(int thing, int what) {
        if (!isThing(thing)) {
            return NONE;
        }
        switch (what) {
            case 0:
                return bench.low[thing];
            case 1:
                return bench.high[thing];
            case 2:
                return bench.one[thing];
            case 3:
                return bench.other[thing];
            case 4:
                return bench.price[thing];
            default:
                return costOfThing(thing, what);
        }
    }

    public int cost(int c, int high) {
        if (!choices.has(c) || isBeyondThings(high)) {
            return NONE;
        }
        return byEnds.costAt(c, high);
    }

    public int cheapest(int high) {
        if (isBeyondThings(high)) {
            return CANNOT_BE;
        }
        return choices.size == 0 ? NO_CHOICES : byEnds.cheapestAt(high);
    }

    public int rue(int c) {
        return choices.has(c) ? byEnds.greatestRue(c) : NONE;
    }

    public int rival(int c) {
        return choices.has(c) ? byEnds.cheapestAt(choices.sets[c]) : NONE;
    }

    public int best() {
        return choices.size == 0 ? NO_CHOICES : byEnds.leastRued();
    }

    public int many() {
        return byEnds.howManyLeastRued();
    }

    public int middle() {
        return choices.size == 0 ? NO_CHOICES : byEnds.cheapestAtMiddles();
    }

    public int hold(int thing) {
        return isThing(thing) ? byEnds.howSure(thing) : NONE;
    }

    public int dearest(int c, int k) {
        if (!choices.has(c) || !isFew(k)) {
            return NONE;
        }
        return byEnds.dearestCost(c, k);
    }

    public int few(int k) {
        if (!isFew(k)) {
            return CANNOT_BE;
        }
        return choices.size == 0 ? NO_CHOICES : byEnds.leastDear(k);
    }

    public int costIn(int w, int c) {
        if (!bench.hasWorld(w) || !choices.has(c)) {
            return NONE;
        }
        return bench.costInWorld(w, choices.sets[c]);
    }

    public int cheapestIn(int w) {
        if (!isWithin(w, MOST_WORLDS)) {
            return CANNOT_BE;
        }
        if (!bench.hasWorld(w)) {
            return NO_SUCH;
        }
        return choices.size == 0 ? NO_CHOICES : byWorlds.cheapestThere(w);
    }

    public int rueOf(int c) {
        if (!choices.has(c) || bench.there == 0) {
            return NONE;
        }
        return byWorlds.greatestRue(c);
    }

    public int bestOf() {
        if (bench.there == 0) {
            return NO_SUCH;
        }
        return choices.size == 0 ? NO_CHOICES : byWorlds.leastRued();
    }

    public int front(int v, int w, int i) {
        if (!bench.hasWorld(v) || !bench.hasWorld(w) || i < -1) {
            return NONE;
        }
        twoWorlds.look(v, w);
        return i == -1 ? twoWorlds.pairsOnFront() : twoWorlds.pairOnFront(i);
    }

    public long lots(int v, int w, int what) {
        if (!isWithin(v, MOST_WORLDS) || !isWithin(w, MOST_WORLDS) || !isWithin(what, 2)) {
            return CANNOT_BE;
        }
        if (!bench.hasWorld(v) || !bench.hasWorld(w)) {
            return NO_SUCH;
        }
        if (choices.size == 0) {
            return NO_CHOICES;
        }
        twoWorlds.look(v, w);
        twoWorlds.draw();
        return what == 0 ? twoWorlds.upper : twoWorlds.lower;
    }

    public int two(int bits) {
        if (isBeyondThings(bits)) {
            return CANNOT_BE;
        }
        if (bench.there == 0) {
            return NO_SUCH;
        }
        return choices.size == 0 ? NO_CHOICES : twoSteps.dearestWith(bits);
    }

    public int first() {
        if (bench.there == 0) {
            return NO_SUCH;
        }
        return choices.size == 0 ? NO_CHOICES : twoSteps.leastDearSet();
    }

    public int image(int k) {
        if (!isWithin(k, MOST_IMAGES)) {
            return refused(CANNOT_BE);
        }
        images[k].copyFrom(bench);
        kept[k] = true;
        return accepted(0);
    }

    public int back(int k) {
        if (!isWithin(k, MOST_IMAGES)) {
            return refused(CANNOT_BE);
        }
        if (!kept[k]) {
            return refused(NO_SUCH);
        }
        bench.copyFrom(images[k]);
        choices.relist(bench);
        return accepted(0);
    }

    public int status() {
        return status;
    }

    private int refused(int why) {
        status = why;
        return why;
    }

    private int accepted(int answer) {
        status = 0;
        byEnds.workOutAnew();
        return answer;
    }

    private boolean isThing(int thing) {
        return isWithin(thing, bench.things);
    }

    private boolean isBeyondThings(int bits) {
        return !isWithin(bits, 1 << bench.things);
    }

    private int costOfThing(int thing, int what) {
        if (what < FIRST_WORLD_ASKED || !bench.hasWorld(what - FIRST_WORLD_ASKED)) {
            return NONE;
        }
        return bench.costs[what - FIRST_WORLD_ASKED][thing];
    }

    private boolean holdsCosts(Sheet sheet, int from) {
        for (int t = 0; t < bench.things; t++) {
            if (!isCost(sheet.numberAt((long) from + t))) {
                return false;
            }
        }
        return true;
    }

    private int sheetsThere() {
        int there = 0;
        for (int s = 0; s < MOST_SHEETS; s++) {
            if (!sheets[s].isMissing()) {
                there++;
            }
        }
        return there;
    }

    private static boolean isWithin(int number, int end) {
        return number >= 0 && number < end;
    }

    private static boolean isCost(int v) {
        return v >= 0 && v <= TOP_COST;
    }

    private static boolean areEnds(int low, int high) {
        return isCost(low) && isCost(high) && low <= high;
    }

    private static boolean isFew(int k) {
        return k >= 0 && k <= MOST_THINGS;
    }

    /** The first place in a row's beginning where the least number of it stands; NONE of an empty one. */
    private static int firstLeast(int[] row, int length) {
        int found = NONE;
        for (int i = 0; i < length; i++) {
            if (found == NONE || row[i] < row[found]) {
                found = i;
            }
        }
        return found;
    }

    /** All that an IMAGE keeps. */
    private static final class Bench {
        int things;
        int kind;
        int k;
        /** Bit w is set when WORLD w is there. */
        int there;
        final int[] low = new int[MOST_THINGS];
        final int[] high = new int[MOST_THINGS];
        final int[] one = new int[MOST_THINGS];
        final int[] other = new int[MOST_THINGS];
        final int[] price = new int[MOST_THINGS];
        final int[][] costs = new int[MOST_WORLDS][MOST_THINGS];

        // POSTS, PRICE and costs are 0 already: nothing but ENDS is ever written behind the last THING
        void addThing(int lowEnd, int highEnd) {
            if (things < MOST_THINGS) {
                low[things] = lowEnd;
                high[things] = highEnd;
                things++;
            }
        }

        // whole rows, so that behind the last THING there is nothing left of others
        void copyFrom(Bench from) {
            things = from.things;
            kind = from.kind;
            k = from.k;
            there = from.there;
            System.arraycopy(from.low, 0, low, 0, MOST_THINGS);
            System.arraycopy(from.high, 0, high, 0, MOST_THINGS);
            System.arraycopy(from.one, 0, one, 0, MOST_THINGS);
            System.arraycopy(from.other, 0, other, 0, MOST_THINGS);
            System.arraycopy(from.price, 0, price, 0, MOST_THINGS);
            for (int w = 0; w < MOST_WORLDS; w++) {
                System.arraycopy(from.costs[w], 0, costs[w], 0, MOST_THINGS);
            }
        }

        boolean hasWorld(int w) {
            return isWithin(w, MOST_WORLDS) && (there >> w & 1) != 0;
        }

        int costInWorld(int w, int set) {
            int sum = 0;
            for (int t = 0; t < things; t++) {
                if ((set >> t & 1) != 0) {
                    sum += costs[w][t];
                }
            }
            return sum;
        }

        boolean allows(int set) {
            switch (kind) {
                case WAYS:
                    return Integer.bitCount(set) < MOST_POSTS && isWay(set);
                case TREES:
                    return Integer.bitCount(set) == k - 1 && holdsTogether(set);
                case PAIRS:
                    return Integer.bitCount(set) == k && meetsAllPosts(set);
                default:
                    return Integer.bitCount(set) == k;
            }
        }

        // any road at hand may be taken: one that is passed by could only be used by coming to a POST twice
        private boolean isWay(int set) {
            int at = 0;
            int seen = 1;
            int rest = set;
            for (int step = 1; step < MOST_POSTS && rest != 0; step++) {
                int road = roadFrom(at, rest);
                if (road == NONE) {
                    return false;
                }
                at = one[road] == at ? other[road] : one[road];
                if ((seen >> at & 1) != 0) {
                    return false;
                }
                seen |= 1 << at;
                rest &= ~(1 << road);
            }
            return rest == 0 && at == k;
        }

        private int roadFrom(int post, int set) {
            for (int t = 0; t < things; t++) {
                if ((set >> t & 1) != 0 && (one[t] == post || other[t] == post)) {
                    return t;
                }
            }
            return NONE;
        }

        // roads one fewer than POSTS can only reach all of them without a ring
        private boolean holdsTogether(int set) {
            int reached = 1;
            for (int round = 1; round < k; round++) {
                for (int t = 0; t < things; t++) {
                    int posts = 1 << one[t] | 1 << other[t];
                    if ((set >> t & 1) != 0 && (reached & posts) != 0) {
                        reached |= posts;
                    }
                }
            }
            return reached == (1 << k) - 1;
        }

        // k THINGS that meet k POSTS meet each of them once
        private boolean meetsAllPosts(int set) {
            int ones = 0;
            int others = 0;
            for (int t = 0; t < things; t++) {
                if ((set >> t & 1) != 0) {
                    ones |= 1 << one[t];
                    others |= 1 << other[t];
                }
            }
            int all = (1 << k) - 1;
            return ones == all && others == all;
        }
    }

    /** The CHOICES by their numbers. */
    private static final class Choices {
        int size;
        int[] sets = new int[MOST_CHOICES];
        private int[] spare = new int[MOST_CHOICES];

        boolean has(int c) {
            return isWithin(c, size);
        }

        /** False, and the old CHOICES stay, if there would be too many. */
        boolean relist(Bench bench) {
            int listed = 0;
            int end = 1 << bench.things;
            for (int set = 0; set < end; set++) {
                if (bench.allows(set)) {
                    if (listed == MOST_CHOICES) {
                        return false;
                    }
                    spare[listed] = set;
                    listed++;
                }
            }
            int[] old = sets;
            sets = spare;
            spare = old;
            size = listed;
            return true;
        }
    }

    /** A row of bytes, shorts or ints; ints hold them all, cut when they are written. */
    private static final class Sheet {
        private final int[] row = new int[MOST_PLACES];
        private int sort;
        /** NONE while the SHEET is missing. */
        private int length = NONE;

        void open(int newSort, int newLength) {
            sort = newSort;
            length = newLength;
            Arrays.fill(row, 0);
        }

        void drop() {
            length = NONE;
        }

        boolean isMissing() {
            return length == NONE;
        }

        boolean hasPlace(long i) {
            return i >= 0 && i < length;
        }

        void put(int i, int v) {
            if (sort == BYTES) {
                row[i] = (byte) v;
            } else if (sort == SHORTS) {
                row[i] = (short) v;
            } else {
                row[i] = v;
            }
        }

        // a long, since a place that is asked for may lie beyond the greatest int
        int numberAt(long i) {
            return hasPlace(i) ? row[(int) i] : 0;
        }
    }

    /** The sum of any THINGS' numbers in two looks, by tables over the lower and the upper six of them. */
    private static final class Sums {
        private static final int HALF = 6;
        private static final int MASK = 63;

        private final int[] lower = new int[MASK + 1];
        private final int[] upper = new int[MASK + 1];

        void fill(int[] numbers) {
            for (int t = 0; t < HALF; t++) {
                int bit = 1 << t;
                for (int set = 0; set < bit; set++) {
                    lower[set | bit] = lower[set] + numbers[t];
                    upper[set | bit] = upper[set] + numbers[t + HALF];
                }
            }
        }

        int total(int set) {
            return lower[set & MASK] + upper[set >> HALF & MASK];
        }
    }

    /** What follows from the ENDS; kept until something changes, as it may be asked for many times. */
    private static final class ByEnds {
        private final Bench bench;
        private final Choices choices;
        private final int[] gaps = new int[MOST_THINGS];
        private final Sums lows = new Sums();
        private final Sums gapSums = new Sums();
        private final int[] lowCosts = new int[MOST_CHOICES];
        private final int[] rues = new int[MOST_CHOICES];
        private final int[] row = new int[MOST_CHOICES];
        private boolean summed;
        private boolean rued;
        private boolean sorted;
        private int always;
        private int sure;
        private int may;

        ByEnds(Bench bench, Choices choices) {
            this.bench = bench;
            this.choices = choices;
        }

        void workOutAnew() {
            summed = false;
            rued = false;
            sorted = false;
        }

        int costAt(int c, int high) {
            sumUp();
            return lowCosts[c] + gapSums.total(choices.sets[c] & high);
        }

        int cheapestAt(int high) {
            sumUp();
            for (int c = 0; c < choices.size; c++) {
                row[c] = lowCosts[c] + gapSums.total(choices.sets[c] & high);
            }
            return firstLeast(row, choices.size);
        }

        int greatestRue(int c) {
            sumUp();
            return rueInWorst(c);
        }

        int leastRued() {
            rueAll();
            return firstLeast(rues, choices.size);
        }

        int howManyLeastRued() {
            int least = leastRued();
            int equal = 0;
            for (int c = 0; least != NONE && c < choices.size; c++) {
                if (rues[c] == rues[least]) {
                    equal++;
                }
            }
            return equal;
        }

        // twice the middles, so that no half is lost
        int cheapestAtMiddles() {
            sumUp();
            for (int c = 0; c < choices.size; c++) {
                row[c] = 2 * lowCosts[c] + gapSums.total(choices.sets[c]);
            }
            return firstLeast(row, choices.size);
        }

        int howSure(int thing) {
            if (choices.size == 0) {
                return 0;
            }
            sortThings();
            int bit = 1 << thing;
            if ((always & bit) != 0) {
                return 3;
            }
            if ((sure & bit) != 0) {
                return 2;
            }
            return (may & bit) != 0 ? 1 : 0;
        }

        int dearestCost(int c, int k) {
            sumUp();
            return lowCosts[c] + widestGaps(choices.sets[c], k);
        }

        int leastDear(int k) {
            sumUp();
            for (int c = 0; c < choices.size; c++) {
                row[c] = lowCosts[c] + widestGaps(choices.sets[c], k);
            }
            return firstLeast(row, choices.size);
        }

        private void sumUp() {
            if (summed) {
                return;
            }
            for (int t = 0; t < MOST_THINGS; t++) {
                gaps[t] = bench.high[t] - bench.low[t];
            }
            lows.fill(bench.low);
            gapSums.fill(gaps);
            for (int c = 0; c < choices.size; c++) {
                lowCosts[c] = lows.total(choices.sets[c]);
            }
            summed = true;
        }

        private void rueAll() {
            if (rued) {
                return;
            }
            sumUp();
            for (int c = 0; c < choices.size; c++) {
                rues[c] = rueInWorst(c);
            }
            rued = true;
        }

        // no world makes a CHOICE rue more than its WORST one: raising its own THINGS or
        // lowering others never helps it against any CHOICE
        private int rueInWorst(int c) {
            int own = choices.sets[c];
            int dear = lowCosts[c] + gapSums.total(own);
            int least = dear;
            for (int x = 0; x < choices.size; x++) {
                // most are too dear even at their low ends, and need no more looks
                if (lowCosts[x] < least) {
                    least = Math.min(least, lowCosts[x] + gapSums.total(choices.sets[x] & own));
                }
            }
            return dear - least;
        }

        private int widestGaps(int set, int k) {
            int sum = 0;
            int left = set;
            for (int turn = 0; turn < k && left != 0; turn++) {
                int widest = widestOf(left);
                if (widest == NONE) {
                    return sum;
                }
                sum += gaps[widest];
                left &= ~(1 << widest);
            }
            return sum;
        }

        private int widestOf(int set) {
            int widest = NONE;
            for (int t = 0; t < bench.things; t++) {
                if ((set >> t & 1) != 0 && (widest == NONE || gaps[t] > gaps[widest])) {
                    widest = t;
                }
            }
            return widest;
        }

        private void sortThings() {
            if (sorted) {
                return;
            }
            sumUp();
            always = (1 << bench.things) - 1;
            sure = always;
            may = 0;
            for (int c = 0; c < choices.size; c++) {
                sortByFairestWorldOf(c);
            }
            sorted = true;
        }

        // a CHOICE stands best where its own THINGS are low and all others high. If it is beaten even
        // there, it is never as cheap as any; if not, nothing is harder on the THINGS that it lacks
        private void sortByFairestWorldOf(int c) {
            int own = choices.sets[c];
            int inAsCheap = own;
            for (int x = 0; x < choices.size; x++) {
                int set = choices.sets[x];
                // most are too dear even at their low ends, and need no more looks
                if (lowCosts[x] <= lowCosts[c]) {
                    int against = lowCosts[x] + gapSums.total(set & ~own);
                    if (against < lowCosts[c]) {
                        return;
                    }
                    inAsCheap |= against == lowCosts[c] ? set : 0;
                }
            }
            always &= own;
            sure &= inAsCheap;
            may |= own;
        }
    }

    /** What follows from single WORLDS and from all that are there. */
    private static final class ByWorlds {
        private final Bench bench;
        private final Choices choices;
        private final Sums costs = new Sums();
        private final int[] row = new int[MOST_CHOICES];
        private final int[] rues = new int[MOST_CHOICES];

        ByWorlds(Bench bench, Choices choices) {
            this.bench = bench;
            this.choices = choices;
        }

        int cheapestThere(int w) {
            costs.fill(bench.costs[w]);
            for (int c = 0; c < choices.size; c++) {
                row[c] = costs.total(choices.sets[c]);
            }
            return firstLeast(row, choices.size);
        }

        int greatestRue(int c) {
            rueAll();
            return rues[c];
        }

        int leastRued() {
            rueAll();
            return firstLeast(rues, choices.size);
        }

        private void rueAll() {
            Arrays.fill(rues, 0);
            for (int w = 0; w < MOST_WORLDS; w++) {
                if (bench.hasWorld(w)) {
                    rueThere(w);
                }
            }
        }

        private void rueThere(int w) {
            int cheapest = cheapestThere(w);
            for (int c = 0; cheapest != NONE && c < choices.size; c++) {
                rues[c] = Math.max(rues[c], row[c] - row[cheapest]);
            }
        }
    }

    /** The CHOICES as points: RUE in one WORLD across, in the other upwards. */
    private static final class TwoWorlds {
        private static final int MOST_DIVISIONS = 100;

        private final Bench bench;
        private final Choices choices;
        private final Sums costs = new Sums();
        private final int[] inV = new int[MOST_CHOICES];
        private final int[] inW = new int[MOST_CHOICES];
        long upper;
        long lower;

        TwoWorlds(Bench bench, Choices choices) {
            this.bench = bench;
            this.choices = choices;
        }

        void look(int v, int w) {
            fillRues(inV, v);
            fillRues(inW, w);
        }

        int pairsOnFront() {
            int pairs = 0;
            int at = leftmostBelow(Integer.MAX_VALUE);
            while (at != NONE && pairs < MOST_CHOICES) {
                pairs++;
                at = leftmostBelow(inW[at]);
            }
            return pairs;
        }

        int pairOnFront(int i) {
            int at = leftmostBelow(Integer.MAX_VALUE);
            for (int pair = 0; pair < i && at != NONE; pair++) {
                at = leftmostBelow(inW[at]);
            }
            return at;
        }

        /** Sets upper and lower: where the points' hull first meets the line of equal RUES. */
        void draw() {
            int left = leastBy(inV, inW);
            int right = leastBy(inW, inV);
            if (inW[left] == 0) {
                upper = 0;
                lower = 1;
                return;
            }
            for (int turn = 0; turn < choices.size; turn++) {
                int under = lowestUnder(left, right);
                if (under == NONE) {
                    break;
                }
                if (inV[under] > inW[under]) {
                    right = under;
                } else {
                    left = under;
                }
            }
            meet(left, right);
        }

        private void fillRues(int[] row, int w) {
            costs.fill(bench.costs[w]);
            for (int c = 0; c < choices.size; c++) {
                row[c] = costs.total(choices.sets[c]);
            }
            int cheapest = firstLeast(row, choices.size);
            int least = cheapest == NONE ? 0 : row[cheapest];
            for (int c = 0; c < choices.size; c++) {
                row[c] -= least;
            }
        }

        private int leftmostBelow(int height) {
            int found = NONE;
            for (int c = 0; c < choices.size; c++) {
                if (inW[c] < height && (found == NONE || comesBefore(c, found, inV, inW))) {
                    found = c;
                }
            }
            return found;
        }

        private int leastBy(int[] row, int[] next) {
            int found = 0;
            for (int c = 1; c < choices.size; c++) {
                if (comesBefore(c, found, row, next)) {
                    found = c;
                }
            }
            return found;
        }

        private static boolean comesBefore(int c, int d, int[] row, int[] next) {
            return row[c] < row[d] || row[c] == row[d] && next[c] < next[d];
        }

        /** The point farthest under the line through two; NONE if none is under it. */
        private int lowestUnder(int left, int right) {
            long across = inW[left] - inW[right];
            long upwards = inV[right] - inV[left];
            long least = across * inV[left] + upwards * inW[left];
            int found = NONE;
            for (int c = 0; c < choices.size; c++) {
                long height = across * inV[c] + upwards * inW[c];
                if (height < least) {
                    least = height;
                    found = c;
                }
            }
            return found;
        }

        private void meet(int left, int right) {
            long over = (long) inW[left] * inV[right] - (long) inV[left] * inW[right];
            long under = (long) inW[left] - inV[left] + inV[right] - inW[right];
            long divisor = commonDivisor(over, under);
            if (divisor > 0) {
                upper = over / divisor;
                lower = under / divisor;
            }
        }

        private static long commonDivisor(long a, long b) {
            long big = a;
            long small = b;
            for (int step = 0; step < MOST_DIVISIONS && small != 0; step++) {
                long rest = big % small;
                big = small;
                small = rest;
            }
            return big;
        }
    }

    /** What is bought now and what is left to buy when the WORLD is known. */
    private static final class TwoSteps {
        private static final int MOST_SETS = 4096;
        /** Above any sum of costs, and far enough from the greatest int to add them to it. */
        private static final int UNREACHED = 1000000;

        private final Bench bench;
        private final Choices choices;
        private final Sums costs = new Sums();
        private final Sums prices = new Sums();
        private final int[] least = new int[MOST_SETS];
        private final int[] dear = new int[MOST_SETS];

        TwoSteps(Bench bench, Choices choices) {
            this.bench = bench;
            this.choices = choices;
        }

        int dearestWith(int bought) {
            int later = 0;
            for (int w = 0; w < MOST_WORLDS; w++) {
                if (bench.hasWorld(w)) {
                    later = Math.max(later, leastLater(w, bought));
                }
            }
            prices.fill(bench.price);
            return prices.total(bought) + later;
        }

        int leastDearSet() {
            int end = 1 << bench.things;
            for (int set = 0; set < end; set++) {
                dear[set] = 0;
            }
            for (int w = 0; w < MOST_WORLDS; w++) {
                if (bench.hasWorld(w)) {
                    spreadLeast(bench.costs[w], end);
                    for (int set = 0; set < end; set++) {
                        dear[set] = Math.max(dear[set], least[set]);
                    }
                }
            }
            prices.fill(bench.price);
            for (int set = 0; set < end; set++) {
                dear[set] += prices.total(set);
            }
            return firstLeast(dear, end);
        }

        private int leastLater(int w, int bought) {
            costs.fill(bench.costs[w]);
            int found = UNREACHED;
            for (int c = 0; c < choices.size; c++) {
                found = Math.min(found, costs.total(choices.sets[c] & ~bought));
            }
            return found;
        }

        // fills least for all bought sets at once: THING by THING its bit, which first says
        // whether a CHOICE has it, comes to say whether it was bought
        private void spreadLeast(int[] cost, int end) {
            for (int set = 0; set < end; set++) {
                least[set] = UNREACHED;
            }
            for (int c = 0; c < choices.size; c++) {
                least[choices.sets[c]] = 0;
            }
            for (int t = 0; t < bench.things; t++) {
                settle(t, cost[t], end);
            }
        }

        private void settle(int t, int cost, int end) {
            int bit = 1 << t;
            for (int start = 0; start < end; start += 2 * bit) {
                for (int set = start; set < start + bit; set++) {
                    int lacking = least[set];
                    int having = least[set | bit];
                    if (having >= lacking) {
                        least[set | bit] = lacking;
                    } else if (having + cost < lacking) {
                        least[set] = having + cost;
                    }
                }
            }
        }
    }
}
