import java.util.Random;

/**
 * What the document says of all costs and all chances, tried over grids of them in small cases:
 * costs in steps of a half between the ENDS, chances in steps of a twelfth.
 */
public final class DefinitionsTest {
    private static final int CASES = 1500;
    private static final int PARTS = 12;

    private final Check check = new Check("DefinitionsTest");
    private final Random random = new Random(7);
    private LeastRue x;
    private int things;
    private int choices;
    private int[] sets;
    private int[] rues;
    private int always;
    private int sure;
    private int may;

    public static void main(String[] args) {
        DefinitionsTest test = new DefinitionsTest();
        for (int i = 0; i < CASES; i++) {
            test.make();
            test.tryCosts();
            test.tryChances();
        }
        test.check.end();
    }

    private void make() {
        x = new LeastRue();
        things = 1 + random.nextInt(5);
        for (int t = 0; t < things; t++) {
            int low = random.nextInt(5);
            x.thing(low, low + random.nextInt(4));
            x.posts(t, random.nextInt(3), random.nextInt(3));
        }
        x.sheet(0, 2, things);
        int kind = random.nextInt(4);
        x.kind(kind, kind == 0 ? random.nextInt(things + 1) : 1 + random.nextInt(3));
        for (int w = 0; w < 2; w++) {
            for (int t = 0; t < things; t++) {
                x.write(0, t, random.nextInt(9));
            }
            x.world(w, 0, 0);
        }
        choices = x.count(1);
        sets = new int[choices];
        for (int c = 0; c < choices; c++) {
            sets[c] = x.choice(c);
        }
    }

    private void tryCosts() {
        rues = new int[choices];
        always = choices == 0 ? 0 : (1 << things) - 1;
        sure = always;
        may = 0;
        goThrough(0, new int[things]);
        for (int c = 0; c < choices; c++) {
            check.due("promise 17: twice the rue", 2 * x.rue(c), rues[c]);
        }
        for (int t = 0; t < things; t++) {
            int want = (always >> t & 1) != 0 ? 3 : (sure >> t & 1) != 0 ? 2 : may >> t & 1;
            check.due("promise 22: hold", x.hold(t), want);
        }
    }

    private void goThrough(int t, int[] doubled) {
        if (t == things) {
            look(doubled);
            return;
        }
        for (int v = 2 * x.of(t, 0); v <= 2 * x.of(t, 1); v++) {
            doubled[t] = v;
            goThrough(t + 1, doubled);
        }
    }

    private void look(int[] doubled) {
        int[] costs = new int[choices];
        int least = Integer.MAX_VALUE;
        for (int c = 0; c < choices; c++) {
            for (int t = 0; t < things; t++) {
                costs[c] += (sets[c] >> t & 1) * doubled[t];
            }
            least = Math.min(least, costs[c]);
        }
        int every = (1 << things) - 1;
        int some = 0;
        for (int c = 0; c < choices; c++) {
            rues[c] = Math.max(rues[c], costs[c] - least);
            if (costs[c] == least) {
                every &= sets[c];
                some |= sets[c];
            }
        }
        always &= every;
        sure &= some;
        may |= some;
    }

    private void tryChances() {
        if (choices == 0) {
            return;
        }
        int[] inV = ruesIn(0);
        int[] inW = ruesIn(1);
        long upper = x.lots(0, 1, 0);
        long lower = x.lots(0, 1, 1);
        check.holds("promise 30: a lower number above 0", lower > 0);
        boolean reached = false;
        for (int a = 0; a < choices; a++) {
            for (int b = 0; b < choices; b++) {
                int c = random.nextInt(choices);
                for (int i = 0; i <= PARTS; i++) {
                    int j = random.nextInt(PARTS - i + 1);
                    int rest = PARTS - i - j;
                    long mean = Math.max(i * inV[a] + j * inV[b] + rest * inV[c], i * inW[a] + j * inW[b] + rest * inW[c]);
                    check.holds("promise 30: chances beat the least", mean * lower >= upper * PARTS);
                }
                reached |= meets(inV, inW, a, b, upper, lower);
            }
        }
        check.holds("promise 30: some chances give the least", reached);
    }

    private boolean meets(int[] inV, int[] inW, int a, int b, long upper, long lower) {
        for (int whole = 1; whole <= 64; whole++) {
            for (int part = 0; part <= whole; part++) {
                long v = (long) part * inV[a] + (long) (whole - part) * inV[b];
                long w = (long) part * inW[a] + (long) (whole - part) * inW[b];
                if (Math.max(v, w) * lower == upper * whole) {
                    return true;
                }
            }
        }
        return false;
    }

    private int[] ruesIn(int w) {
        int[] row = new int[choices];
        int least = x.costIn(w, x.cheapestIn(w));
        for (int c = 0; c < choices; c++) {
            row[c] = x.costIn(w, c) - least;
        }
        return row;
    }
}
