import java.util.ArrayDeque;
import java.util.Random;

/** Random runs of calls, each call put to the program and to the model. */
public final class ModelTest {
    private static final int RUNS = 1500;
    private static final int CALLS = 512;
    private static final int HEAPS = 300;
    private static final int[] EDGES = {-1, -2, 0, 1, 3, 4, 6, 7, 8, 11, 12, 13, 99, 100, 101, 999, 1000, 1001,
        4095, 4096, Integer.MAX_VALUE, Integer.MIN_VALUE, Integer.MAX_VALUE - 5, 1 << 30, 1 << 16, 255, 128};

    private final Check check = new Check("ModelTest");
    private final ArrayDeque<String> trail = new ArrayDeque<>();
    private Random random;
    private LeastRue real;
    private Model model;
    private int mostThings;
    private int span;

    public static void main(String[] args) {
        ModelTest test = new ModelTest();
        for (int run = 0; run < RUNS && !test.check.hasFailed(); run++) {
            test.run(run);
        }
        for (int heap = 0; heap < HEAPS && !test.check.hasFailed(); heap++) {
            test.greatHeap(heap);
        }
        test.check.end();
    }

    private void run(int seed) {
        random = new Random(seed);
        real = new LeastRue();
        model = new Model();
        trail.clear();
        // trying everything is dear: only a few runs have all twelve THINGS
        mostThings = seed % 50 == 0 ? 12 : 2 + random.nextInt(6);
        span = random.nextBoolean() ? 1000 : 1 + random.nextInt(12);
        for (int call = 0; call < CALLS / 2 && !check.hasFailed(); call++) {
            if (random.nextInt(100) < (call < 60 ? 85 : 30)) {
                change();
            } else {
                ask();
            }
            compare("status()", real.status(), model.status());
        }
        if (check.hasFailed()) {
            System.out.println("run " + seed + ", all its calls:");
            trail.forEach(System.out::println);
        }
    }

    /** Many CHOICES and two WORLDS that are at odds: a front and a hull of many points. */
    private void greatHeap(int seed) {
        random = new Random(seed);
        real = new LeastRue();
        model = new Model();
        int things = 6 + random.nextInt(7);
        int spread = seed % 2 == 0 ? 1000 : 30;
        for (int t = 0; t < things; t++) {
            int low = random.nextInt(500);
            int high = low + random.nextInt(500);
            compare("thing", real.thing(low, high), model.thing(low, high));
            int price = random.nextInt(spread) / 2;
            compare("price", real.price(t, price), model.price(t, price));
        }
        int k = 2 + random.nextInt(3);
        compare("kind", real.kind(0, k), model.kind(0, k));
        compare("sheet", real.sheet(0, 2, 24), model.sheet(0, 2, 24));
        for (int i = 0; i < 12; i++) {
            int v = random.nextInt(spread + 1);
            int w = Math.max(0, spread - v - random.nextInt(1 + spread / 4));
            compare("write", real.write(0, i, v), model.write(0, i, v));
            compare("write", real.write(0, 12 + i, w), model.write(0, 12 + i, w));
        }
        compare("world", real.world(1, 0, 0), model.world(1, 0, 0));
        compare("world", real.world(6, 0, 12), model.world(6, 0, 12));
        for (int what = 0; what < 2; what++) {
            compare("great lots", real.lots(1, 6, what), model.lots(1, 6, what));
            compare("great lots turned", real.lots(6, 1, what), model.lots(6, 1, what));
        }
        int pairs = model.front(1, 6, -1);
        compare("great front", real.front(1, 6, -1), pairs);
        for (int i = 0; i <= pairs && i < 40; i++) {
            compare("great front " + i, real.front(1, 6, i), model.front(1, 6, i));
        }
        compare("great bestOf", real.bestOf(), model.bestOf());
        if (things < 10) {
            compare("great first", real.first(), model.first());
            compare("great best", real.best(), model.best());
            compare("great many", real.many(), model.many());
        }
    }

    private void compare(String call, long got, long want) {
        trail.add(call + " = " + got);
        check.due(call, got, want);
    }

    private int pick(int end) {
        return random.nextInt(14) == 0 ? EDGES[random.nextInt(EDGES.length)] : random.nextInt(Math.max(1, end));
    }

    private int amount() {
        return random.nextInt(25) == 0 ? EDGES[random.nextInt(EDGES.length)] : random.nextInt(span + 1);
    }

    private int things() {
        return Math.max(0, model.count(0));
    }

    private int bits() {
        return pick(1 << things());
    }

    private void change() {
        int a = amount();
        int b = amount();
        int low = random.nextInt(15) == 0 ? Math.max(a, b) : Math.min(a, b);
        int high = random.nextInt(15) == 0 ? Math.min(a, b) : Math.max(a, b);
        int t = pick(things());
        switch (random.nextInt(16)) {
            case 0:
            case 1:
            case 2:
                if (things() < mostThings || mostThings == 12) {
                    compare("thing(" + low + ", " + high + ")", real.thing(low, high), model.thing(low, high));
                }
                break;
            case 3:
                compare("ends(" + t + ", " + low + ", " + high + ")", real.ends(t, low, high), model.ends(t, low, high));
                break;
            case 4:
            case 5:
            case 6:
                int one = pick(random.nextInt(4) + 1);
                int other = pick(random.nextInt(4) + 3);
                compare("posts(" + t + ", " + one + ", " + other + ")", real.posts(t, one, other), model.posts(t, one, other));
                break;
            case 7:
                compare("price(" + t + ", " + a + ")", real.price(t, a), model.price(t, a));
                break;
            case 8:
                int kind = pick(4);
                int k = pick(kind == 0 ? things() + 1 : random.nextInt(7) + 1);
                compare("kind(" + kind + ", " + k + ")", real.kind(kind, k), model.kind(kind, k));
                break;
            case 9:
                int s = pick(4);
                int sort = pick(3);
                int n = pick(random.nextInt(3) == 0 ? 101 : 14);
                compare("sheet(" + s + ", " + sort + ", " + n + ")", real.sheet(s, sort, n), model.sheet(s, sort, n));
                break;
            case 10:
            case 11:
                fillSheet();
                break;
            case 12:
            case 13:
                int w = pick(8);
                int from = random.nextInt(8);
                int of = pick(4);
                from = random.nextInt(20) == 0 ? EDGES[random.nextInt(EDGES.length)] : from;
                compare("world(" + w + ", " + of + ", " + from + ")", real.world(w, of, from), model.world(w, of, from));
                break;
            case 14:
                int gone = pick(8);
                compare("forget(" + gone + ")", real.forget(gone), model.forget(gone));
                break;
            default:
                int image = pick(3);
                if (random.nextInt(3) > 0) {
                    compare("image(" + image + ")", real.image(image), model.image(image));
                } else {
                    compare("back(" + image + ")", real.back(image), model.back(image));
                }
                break;
        }
    }

    private void fillSheet() {
        int s = pick(4);
        int from = random.nextInt(6);
        for (int i = from; i < from + 7; i++) {
            int place = random.nextInt(40) == 0 ? pick(100) : i;
            int v = random.nextInt(60) == 0 ? random.nextInt() : amount();
            compare("write(" + s + ", " + place + ", " + v + ")", real.write(s, place, v), model.write(s, place, v));
        }
    }

    private void ask() {
        int c = pick(model.count(1));
        int t = pick(things());
        int w = pick(8);
        int v = pick(8);
        int bits = bits();
        int k = pick(6);
        switch (random.nextInt(24)) {
            case 0:
                int what = pick(6);
                compare("count(" + what + ")", real.count(what), model.count(what));
                break;
            case 1:
                compare("choice(" + c + ")", real.choice(c), model.choice(c));
                break;
            case 2:
                int set = random.nextBoolean() ? bits : model.choice(c);
                compare("find(" + set + ")", real.find(set), model.find(set));
                break;
            case 3:
                int which = pick(20);
                compare("of(" + t + ", " + which + ")", real.of(t, which), model.of(t, which));
                break;
            case 4:
                compare("cost(" + c + ", " + bits + ")", real.cost(c, bits), model.cost(c, bits));
                break;
            case 5:
                compare("cheapest(" + bits + ")", real.cheapest(bits), model.cheapest(bits));
                break;
            case 6:
            case 7:
                compare("rue(" + c + ")", real.rue(c), model.rue(c));
                break;
            case 8:
                compare("rival(" + c + ")", real.rival(c), model.rival(c));
                break;
            case 9:
                compare("best()", real.best(), model.best());
                break;
            case 10:
                compare("many()", real.many(), model.many());
                break;
            case 11:
                compare("middle()", real.middle(), model.middle());
                break;
            case 12:
            case 13:
                compare("hold(" + t + ")", real.hold(t), model.hold(t));
                break;
            case 14:
                compare("dearest(" + c + ", " + k + ")", real.dearest(c, k), model.dearest(c, k));
                break;
            case 15:
                compare("few(" + k + ")", real.few(k), model.few(k));
                break;
            default:
                askWorlds(c, v, w, bits);
                break;
        }
    }

    private void askWorlds(int c, int v, int w, int bits) {
        switch (random.nextInt(8)) {
            case 0:
                compare("costIn(" + w + ", " + c + ")", real.costIn(w, c), model.costIn(w, c));
                break;
            case 1:
                compare("cheapestIn(" + w + ")", real.cheapestIn(w), model.cheapestIn(w));
                break;
            case 2:
                compare("rueOf(" + c + ")", real.rueOf(c), model.rueOf(c));
                break;
            case 3:
                compare("bestOf()", real.bestOf(), model.bestOf());
                break;
            case 4:
                int i = random.nextInt(5) - 1;
                i = random.nextInt(20) == 0 ? pick(5) : i;
                compare("front(" + v + ", " + w + ", " + i + ")", real.front(v, w, i), model.front(v, w, i));
                break;
            case 5:
                int what = pick(2);
                compare("lots(" + v + ", " + w + ", " + what + ")", real.lots(v, w, what), model.lots(v, w, what));
                break;
            case 6:
                compare("two(" + bits + ")", real.two(bits), model.two(bits));
                break;
            default:
                compare("first()", real.first(), model.first());
                break;
        }
    }
}
