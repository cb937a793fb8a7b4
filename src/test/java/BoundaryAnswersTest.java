/** Each sentence of promises 11 to 32, the calls that ask for something, that names a boundary case. */
public final class BoundaryAnswersTest extends Sentences {
    /** Numbers of CHOICES, THINGS and WORLDS that are there in no small bench. */
    private static final int[] NOWHERE = {-1, -2, 12, 500, 4096, MIN, MIN + 1, MAX, MAX - 1, 1 << 16, 1 << 30};

    private BoundaryAnswersTest() {
        super("BoundaryAnswersTest");
    }

    public static void main(String[] args) {
        BoundaryAnswersTest test = new BoundaryAnswersTest();
        test.count();
        test.choice();
        test.find();
        test.of();
        test.cost();
        test.cheapest();
        test.rueAndRival();
        test.best();
        test.many();
        test.middle();
        test.hold();
        test.dearest();
        test.few();
        test.costIn();
        test.cheapestIn();
        test.rueOf();
        test.bestOf();
        test.front();
        test.frontOfMany();
        test.lots();
        test.two();
        test.first();
        test.firstOfMany();
        test.end();
    }

    private void count() {
        sentence("Promise 11: 0 THINGS, 1 CHOICES, 2 WORLDS that are there, 3 KIND, 4 k, 5 SHEETS that are there");
        LeastRue most = alike(12, 4, 0, 0);
        for (int w = 0; w < 8; w++) {
            most.world(w, 0, 0);
        }
        for (int s = 0; s < 4; s++) {
            most.sheet(s, 0, 0);
        }
        int[] want = {12, 495, 8, 0, 4, 4};
        for (int what = 0; what < want.length; what++) {
            due("the most of " + what, most.count(what), want[what]);
        }
        LeastRue other = alike(2, 0, 0, 0);
        other.kind(3, 6);
        other.sheet(2, 0, 9);
        int[] few = {2, 0, 0, 3, 6, 1};
        for (int what = 0; what < few.length; what++) {
            due("another bench, " + what, other.count(what), few[what]);
        }

        sentence("Promise 11: NONE for others");
        int[] others = {-1, 6, 7, 10, MIN, MAX, 1 << 16};
        for (int what : others) {
            due("count(" + what + ")", most.count(what), -1);
        }
    }

    private void choice() {
        sentence("Promise 12: The bits of CHOICE c; NONE");
        LeastRue x = alike(3, 2, 0, 0);
        due("the first", x.choice(0), 3);
        due("the last", x.choice(2), 6);
        due("behind the last", x.choice(3), -1);
        for (int c : NOWHERE) {
            due("choice(" + c + ")", x.choice(c), -1);
        }
        LeastRue most = alike(12, 8, 0, 0);
        due("the last of 495", most.choice(494), 0xFF0);
        due("behind it", most.choice(495), -1);
        due("499", most.choice(499), -1);
        due("500", most.choice(500), -1);
        most.kind(0, 1);
        due("one that was there with another k", most.choice(12), -1);
        x.kind(0, 4);
        due("without choices", x.choice(0), -1);
    }

    private void find() {
        sentence("Promise 13: The number of the CHOICE with these bits; NONE");
        LeastRue x = alike(3, 2, 0, 0);
        due("the first", x.find(3), 0);
        due("the last", x.find(6), 2);
        int[] none = {0, 1, 2, 4, 7, 8, 11, 4095, 4096, 4099, -1, -3, MIN, MAX, MIN | 3, 1 << 16 | 3};
        for (int bits : none) {
            due("find(" + bits + ")", x.find(bits), -1);
        }
        due("the empty choice", new LeastRue().find(0), 0);
        LeastRue most = alike(12, 4, 0, 0);
        due("the last of 495", most.find(0xF00), 494);
        LeastRue all = alike(12, 12, 0, 0);
        due("all twelve", all.find(4095), 0);
        x.kind(0, 4);
        due("without choices", x.find(0), -1);
        x.kind(0, 1);
        due("one that was there with another k", x.find(3), -1);
    }

    private void of() {
        sentence("Promise 14: A THING's low (what 0), high (1) end, POSTS one (2), other (3), PRICE (4), cost in WORLD what - 10 (10 .. 17, that is there). NONE");
        LeastRue x = alike(1, 1, 3, 4);
        x.posts(0, 1, 2);
        x.price(0, 9);
        tell(x, 0, 50);
        tell(x, 7, 57);
        int[] want = {3, 4, 1, 2, 9, -1, -1, -1, -1, -1, 50, -1, -1, -1, -1, -1, -1, 57, -1, -1};
        for (int what = 0; what < want.length; what++) {
            due("of(0, " + what + ")", x.of(0, what), want[what]);
        }
        int[] wrong = {-1, -10, 18, 42, 49, MIN, MIN + 9, MIN + 10, MIN + 17, MAX, 1 << 16};
        for (int what : wrong) {
            due("of(0, " + what + ")", x.of(0, what), -1);
        }
        due("of(1, 0)", x.of(1, 0), -1);
        due("of(1, 10)", x.of(1, 10), -1);
        for (int thing : NOWHERE) {
            due("of(" + thing + ", 0)", x.of(thing, 0), -1);
            due("of(" + thing + ", 10)", x.of(thing, 10), -1);
        }
        x.forget(7);
        due("of a forgotten world", x.of(0, 17), -1);
    }

    private void cost() {
        sentence("Promise 15: The cost of CHOICE c where the THINGS with these bits are at their high ends, all others at low; NONE");
        LeastRue x = heap(2, ends(1, 10), ends(2, 20), ends(3, 30));
        due("none high", x.cost(0, 0), 3);
        due("all high", x.cost(0, 7), 30);
        due("only others high", x.cost(0, 4), 3);
        due("the last choice", x.cost(2, 2), 23);
        due("behind the last choice", x.cost(3, 0), -1);
        for (int c : NOWHERE) {
            due("cost(" + c + ", 0)", x.cost(c, 0), -1);
        }
        int[] beyond = {8, 9, 15, 4095, 4096, -1, -8, MIN, MAX, MIN | 1};
        for (int bits : beyond) {
            due("cost(0, " + bits + ")", x.cost(0, bits), -1);
        }
        LeastRue all = alike(12, 12, 0, 1000);
        due("all of twelve", all.cost(0, 4095), 12000);
        due("none of twelve", all.cost(0, 0), 0);
        due("the last of twelve", all.cost(0, 2048), 1000);
        due("beyond twelve", all.cost(0, 4096), -1);
        x.kind(0, 4);
        due("without choices", x.cost(0, 0), -1);
    }

    private void cheapest() {
        sentence("Promise 16: The first CHOICE that is cheapest there");
        LeastRue x = heap(1, ends(1, 3), ends(1, 2), ends(2, 2));
        due("the first of two", x.cheapest(0), 0);
        due("the other", x.cheapest(1), 1);
        due("both at their high ends", x.cheapest(3), 1);
        due("the last bits", x.cheapest(7), 1);

        sentence("Promise 16: -1 bits beyond the THINGS; -6");
        int[] beyond = {8, 9, 4096, -1, MIN, MAX};
        for (int bits : beyond) {
            due("cheapest(" + bits + ")", x.cheapest(bits), -1);
        }
        LeastRue full = alike(12, 1, 1, 2);
        due("all of twelve", full.cheapest(4095), 0);
        due("all but the last of twelve", full.cheapest(2047), 11);
        due("beyond twelve", full.cheapest(4096), -1);
        x.kind(0, 4);
        due("no choices", x.cheapest(0), -6);
        due("no choices, all bits", x.cheapest(7), -6);
        due("no choices, bits beyond", x.cheapest(8), -1);
    }

    private void rueAndRival() {
        sentence("Promise 17: GREATEST RUE of CHOICE c; NONE");
        LeastRue x = heap(1, ends(0, 7), ends(2, 9));
        due("the first", x.rue(0), 5);
        due("the last", x.rue(1), 9);
        due("behind the last", x.rue(2), -1);
        for (int c : NOWHERE) {
            due("rue(" + c + ")", x.rue(c), -1);
        }
        due("the last of 495", alike(12, 4, 2, 5).rue(494), 12);
        due("behind it", alike(12, 4, 2, 5).rue(495), -1);

        sentence("Promise 18: The CHOICE that is the first cheapest in the WORST world of CHOICE c; NONE");
        due("of the first", x.rival(0), 1);
        due("of the last", x.rival(1), 0);
        due("behind the last", x.rival(2), -1);
        for (int c : NOWHERE) {
            due("rival(" + c + ")", x.rival(c), -1);
        }
        LeastRue three = heap(1, ends(5, 5), ends(0, 5), ends(0, 5));
        due("the first of two", three.rival(0), 1);
        due("the other of both", three.rival(1), 2);
        three.ends(1, 5, 5);
        three.ends(2, 5, 5);
        due("the first, though it is as cheap itself", three.rival(2), 0);
        due("itself", three.rival(0), 0);
        x.kind(0, 3);
        due("without choices", x.rue(0) * 10 + x.rival(0), -11);
    }

    private void best() {
        sentence("Promise 19: BEST by ENDS. -6");
        LeastRue x = alike(12, 4, 0, 1);
        due("the first of 495", x.best(), 0);
        x.kind(0, 12);
        due("the only one", x.best(), 0);
        x.kind(0, 0);
        due("the empty one", x.best(), 0);
        LeastRue none = new LeastRue();
        none.kind(0, 1);
        due("no choices without things", none.best(), -6);
        none.thing(0, 0);
        due("with one", none.best(), 0);
        none.kind(1, 1);
        due("no ways", none.best(), -6);
        none.kind(2, 2);
        due("no trees", none.best(), -6);
        none.kind(3, 2);
        due("no pairs", none.best(), -6);
        LeastRue last = alike(12, 4, 1, 1);
        for (int t = 8; t < 12; t++) {
            last.ends(t, 0, 0);
        }
        due("the last of 495", last.best(), 494);
    }

    private void many() {
        sentence("Promise 20: How many CHOICES have the least GREATEST RUE");
        due("all of 495", alike(12, 4, 0, 1).many(), 495);
        due("the only one", alike(12, 12, 0, 1).many(), 1);
        due("of a new object", new LeastRue().many(), 1);
        LeastRue x = heap(1, ends(0, 9), ends(0, 9), ends(5, 5));
        due("one", x.many(), 1);
        x.ends(2, 9, 9);
        due("three", x.many(), 3);
        x.ends(2, 10, 10);
        due("two", x.many(), 2);
        x.kind(0, 4);
        due("without choices", x.many(), 0);
        x.kind(0, 3);
        due("with one again", x.many(), 1);
    }

    private void middle() {
        sentence("Promise 21: The choice of the MIDDLES. -6");
        LeastRue x = heap(1, ends(0, 1000), ends(499, 500));
        due("500 and 499.5", x.middle(), 1);
        x.ends(1, 500, 500);
        due("500 and 500", x.middle(), 0);
        x.ends(1, 500, 501);
        due("500 and 500.5", x.middle(), 0);
        x.kind(0, 3);
        due("no choices", x.middle(), -6);
        due("the empty one", new LeastRue().middle(), 0);
    }

    private void hold() {
        sentence("Promise 22: Of a THING 3 ALWAYS, 2 SURE (not ALWAYS), 1 MAY (not SURE), 0 LOST. NONE");
        LeastRue x = heap(1, ends(2, 4), ends(5, 6));
        due("5 is more than 4", x.hold(0) * 10 + x.hold(1), 30);
        x.ends(1, 4, 6);
        due("4 is as much as 4", x.hold(0) * 10 + x.hold(1), 21);
        x.ends(1, 3, 6);
        due("3 is less than 4", x.hold(0) * 10 + x.hold(1), 11);
        x.ends(1, 1, 2);
        due("2 is as little as 2", x.hold(0) * 10 + x.hold(1), 12);
        x.ends(1, 1, 1);
        due("1 is less than 2", x.hold(0) * 10 + x.hold(1), 3);
        due("no thing 2", x.hold(2), -1);
        for (int thing : NOWHERE) {
            due("hold(" + thing + ")", x.hold(thing), -1);
        }
        LeastRue full = alike(12, 12, 0, 1000);
        due("the last of twelve", full.hold(11), 3);
        due("no thing 12", full.hold(12), -1);
        full.kind(0, 4);
        due("one of 495 choices", full.hold(11), 1);
        LeastRue still = alike(12, 4, 7, 7);
        due("one of 495 that are all as cheap", still.hold(11), 2);
        due("without things", new LeastRue().hold(0), -1);
    }

    private void dearest() {
        sentence("Promise 23: DEAREST cost of CHOICE c with k (0 .. 12) at their high ends; NONE");
        LeastRue x = heap(2, ends(1, 4), ends(2, 9), ends(5, 5));
        int[] want = {3, 10, 13, 13};
        for (int k = 0; k < want.length; k++) {
            due("k " + k, x.dearest(0, k), want[k]);
        }
        due("k 12", x.dearest(0, 12), 13);
        int[] wrong = {-1, 13, MIN, MAX};
        for (int k : wrong) {
            due("k " + k, x.dearest(0, k), -1);
        }
        due("the last choice", x.dearest(2, 1), 14);
        due("behind the last choice", x.dearest(3, 0), -1);
        for (int c : NOWHERE) {
            due("dearest(" + c + ", 1)", x.dearest(c, 1), -1);
        }
        x.kind(0, 4);
        due("without choices", x.dearest(0, 0), -1);
    }

    private void few() {
        sentence("Promise 24: The first CHOICE whose DEAREST cost with k is least. -1; -6");
        LeastRue x = heap(2, ends(0, 9), ends(3, 3), ends(3, 4), ends(4, 4));
        due("none high: things 0 and 1", x.few(0), 0);
        due("one high: 7 of things 1 and 2 or 1 and 3", x.few(1), 2);
        due("k 12", x.few(12), 2);
        x.ends(2, 4, 4);
        due("the first of two", x.few(2), 2);
        int[] wrong = {-1, 13, MIN, MAX};
        for (int k : wrong) {
            due("k " + k, x.few(k), -1);
        }
        x.kind(0, 5);
        due("no choices, k 0", x.few(0), -6);
        due("no choices, k 12", x.few(12), -6);
        due("no choices, k 13", x.few(13), -1);
        due("no choices, k -1", x.few(-1), -1);
        due("the empty one", new LeastRue().few(12), 0);
    }

    private void costIn() {
        sentence("Promise 25: The cost of CHOICE c in a WORLD that is there; NONE");
        LeastRue x = alike(2, 1, 0, 0);
        tell(x, 0, 0, 1000);
        tell(x, 7, 3, 4);
        due("world 0, the first choice", x.costIn(0, 0), 0);
        due("world 0, the last choice", x.costIn(0, 1), 1000);
        due("world 7", x.costIn(7, 1), 4);
        due("behind the last choice", x.costIn(0, 2), -1);
        for (int no : NOWHERE) {
            due("costIn(0, " + no + ")", x.costIn(0, no), -1);
            due("costIn(" + no + ", 0)", x.costIn(no, 0), -1);
        }
        for (int w = 1; w < 7; w++) {
            due("no world " + w, x.costIn(w, 0), -1);
        }
        due("world 8", x.costIn(8, 0), -1);
        due("world 32", x.costIn(32, 0), -1);
        x.forget(7);
        due("a forgotten world", x.costIn(7, 0), -1);
        x.kind(0, 3);
        due("without choices", x.costIn(0, 0), -1);
        LeastRue all = alike(12, 12, 0, 0);
        tell(all, 3, 1000, 1000, 1000, 1000, 1000, 1000, 1000, 1000, 1000, 1000, 1000, 1000);
        due("the dearest of all", all.costIn(3, 0), 12000);
    }

    private void cheapestIn() {
        sentence("Promise 26: The first CHOICE that is cheapest there");
        LeastRue x = alike(3, 1, 0, 0);
        tell(x, 0, 5, 4, 4);
        tell(x, 7, 1, 1, 0);
        due("the first of two", x.cheapestIn(0), 1);
        due("the last", x.cheapestIn(7), 2);

        sentence("Promise 26: -1 no WORLD 0 .. 7; -2; -6");
        int[] wrong = {-1, 8, 32, 39, MIN, MAX};
        for (int w : wrong) {
            due("cheapestIn(" + w + ")", x.cheapestIn(w), -1);
        }
        for (int w = 1; w < 7; w++) {
            due("cheapestIn(" + w + ")", x.cheapestIn(w), -2);
        }
        x.kind(0, 4);
        due("no choices", x.cheapestIn(0), -6);
        due("no choices, no world", x.cheapestIn(1), -2);
        due("no choices, a world that can't be", x.cheapestIn(8), -1);
        x.forget(0);
        due("no choices, a forgotten world", x.cheapestIn(0), -2);
    }

    private void rueOf() {
        sentence("Promise 27: The greatest RUE of CHOICE c over all WORLDS that are there; NONE without CHOICE, WORLDS");
        LeastRue x = alike(2, 1, 0, 0);
        due("without worlds", x.rueOf(0), -1);
        for (int w = 0; w < 8; w++) {
            tell(x, w, w * 10, 35);
            due("thing 0 by worlds 0 to " + w, x.rueOf(0), Math.max(0, w * 10 - 35));
        }
        due("thing 1 by all eight", x.rueOf(1), 35);
        due("behind the last choice", x.rueOf(2), -1);
        for (int c : NOWHERE) {
            due("rueOf(" + c + ")", x.rueOf(c), -1);
        }
        x.forget(7);
        due("without world 7", x.rueOf(0), 25);
        x.kind(0, 3);
        due("without choices", x.rueOf(0), -1);
    }

    private void bestOf() {
        sentence("Promise 28: BEST of WORLDS that are there (the first). -2 there are none; -6");
        LeastRue x = alike(3, 1, 0, 0);
        due("there are none", x.bestOf(), -2);
        tell(x, 7, 2, 1, 1);
        due("the first of two", x.bestOf(), 1);
        tell(x, 0, 0, 9, 9);
        due("thing 0 is rued by 1, others by 9", x.bestOf(), 0);
        x.kind(0, 4);
        due("no choices", x.bestOf(), -6);
        x.forget(7);
        x.forget(0);
        due("neither", x.bestOf(), -2);
        x.kind(0, 1);
        due("all were forgotten", x.bestOf(), -2);
    }

    private void front() {
        sentence("Promise 29: The pair i of THE FRONT of two WORLDS: its first CHOICE; how many pairs (i -1). NONE");
        LeastRue x = alike(4, 1, 0, 0);
        tell(x, 0, 8, 2, 2, 9);
        tell(x, 7, 1, 5, 5, 9);
        due("how many", x.front(0, 7, -1), 2);
        due("the first pair", x.front(0, 7, 0), 1);
        due("the last pair", x.front(0, 7, 1), 0);
        int[] none = {2, 3, 4, 500, MAX, -2, -3, MIN};
        for (int i : none) {
            due("front(0, 7, " + i + ")", x.front(0, 7, i), -1);
        }
        for (int w = 1; w < 7; w++) {
            due("no world " + w + " behind", x.front(0, w, -1), -1);
            due("no world " + w + " ahead", x.front(w, 0, 0), -1);
        }
        int[] wrong = {-1, 8, 32, 39, MIN, MAX};
        for (int w : wrong) {
            due("front(0, " + w + ", -1)", x.front(0, w, -1), -1);
            due("front(" + w + ", 0, -1)", x.front(w, 0, -1), -1);
        }
        due("the same world twice: one pair", x.front(0, 0, -1), 1);
        due("its first choice", x.front(0, 0, 0), 1);
        due("no second", x.front(0, 0, 1), -1);
        x.kind(0, 5);
        due("without choices there are no pairs", x.front(0, 7, -1), 0);
        due("nor a first", x.front(0, 7, 0), -1);
        x.kind(0, 4);
        due("of one choice", x.front(0, 7, -1), 1);
        due("that one", x.front(0, 7, 0), 0);
    }

    private void frontOfMany() {
        sentence("Promise 29: how many pairs (many)");
        LeastRue x = alike(10, 4, 0, 0);
        int[] up = new int[10];
        int[] down = new int[10];
        for (int t = 0; t < 10; t++) {
            up[t] = 1 << t;
            down[t] = 1000 - up[t];
        }
        tell(x, 1, up);
        tell(x, 2, down);
        due("all 210 choices", x.front(1, 2, -1), 210);
        due("turned", x.front(2, 1, -1), 210);
        int[] some = {0, 1, 2, 104, 105, 208, 209};
        for (int i : some) {
            due("pair " + i, x.front(1, 2, i), i);
            due("pair " + i + ", turned", x.front(2, 1, i), 209 - i);
        }
        due("behind the last", x.front(1, 2, 210), -1);
    }

    private void lots() {
        sentence("Promise 30: LOTS of two WORLDS (the same, too): upper (what 0), lower (1) number");
        LeastRue x = alike(2, 1, 0, 0);
        tell(x, 0, 0, 3);
        tell(x, 7, 4, 0);
        due("upper", x.lots(0, 7, 0), 12);
        due("lower", x.lots(0, 7, 1), 7);
        due("the same world: upper", x.lots(7, 7, 0), 0);
        due("the same world: lower", x.lots(7, 7, 1), 1);

        sentence("Promise 30: -1 no WORLDS 0 .. 7, what; -2; -6");
        int[] noWorld = {-1, 8, 32, 39, MIN, MAX};
        for (int w : noWorld) {
            due("lots(0, " + w + ", 0)", x.lots(0, w, 0), -1);
            due("lots(" + w + ", 0, 1)", x.lots(w, 0, 1), -1);
        }
        int[] noWhat = {-1, 2, MIN, MAX};
        for (int what : noWhat) {
            due("what " + what, x.lots(0, 7, what), -1);
            due("what " + what + " of worlds that are not there", x.lots(1, 2, what), -1);
        }
        for (int w = 1; w < 7; w++) {
            due("no world " + w + " behind", x.lots(0, w, 0), -2);
            due("no world " + w + " ahead", x.lots(w, 7, 1), -2);
            due("the same, that is not there", x.lots(w, w, 0), -2);
        }
        x.kind(0, 3);
        due("no choices: upper", x.lots(0, 7, 0), -6);
        due("no choices: lower", x.lots(0, 7, 1), -6);
        due("no choices, no world", x.lots(0, 1, 0), -2);
        due("no choices, no what", x.lots(0, 7, 2), -1);
    }

    private void two() {
        sentence("Promise 31: DEAREST of TWO STEPS, if THINGS with these bits are bought now");
        LeastRue x = alike(3, 2, 0, 0);
        for (int t = 0; t < 3; t++) {
            x.price(t, 10 + t);
        }
        tell(x, 0, 20, 30, 40);
        tell(x, 7, 40, 30, 20);
        int[] want = {50, 40, 31, 21, 42, 22, 23, 33};
        for (int bits = 0; bits < want.length; bits++) {
            due("two(" + bits + ")", x.two(bits), want[bits]);
        }
        LeastRue full = alike(12, 12, 0, 0);
        full.world(0, 0, 0);
        for (int t = 0; t < 12; t++) {
            full.price(t, 1000);
        }
        due("all of twelve", full.two(4095), 12000);
        due("beyond twelve", full.two(4096), -1);

        sentence("Promise 31: -1 bits beyond the THINGS; -2 no WORLDS; -6");
        int[] beyond = {8, 15, 4095, 4096, -1, MIN, MAX, MIN | 1};
        for (int bits : beyond) {
            due("two(" + bits + ")", x.two(bits), -1);
        }
        x.kind(0, 4);
        due("no choices", x.two(0), -6);
        due("no choices, all bits", x.two(7), -6);
        due("no choices, bits beyond", x.two(8), -1);
        x.forget(0);
        due("one world left", x.two(0), -6);
        x.forget(7);
        due("no worlds, no choices", x.two(0), -2);
        x.kind(0, 2);
        due("no worlds", x.two(7), -2);
        due("no worlds, bits beyond", x.two(8), -1);
    }

    private void first() {
        sentence("Promise 32: The bits (the lowest) for which that is least");
        LeastRue x = alike(2, 1, 0, 0);
        tell(x, 0, 5, 5);
        due("what is free is bought: the lowest bits", x.first(), 1);
        x.price(0, 5);
        due("the other is free", x.first(), 2);
        x.price(1, 5);
        due("now as dear as later: nothing", x.first(), 0);
        x.price(0, 4);
        due("one cheaper now", x.first(), 1);
        x.price(1, 4);
        due("both are: the lower bits", x.first(), 1);
        tell(x, 0, 0, 0);
        due("free later", x.first(), 0);
        x.price(0, 6);
        x.price(1, 6);
        tell(x, 0, 5, 8);
        due("the cheaper one later", x.first(), 0);
        tell(x, 0, 7, 6);
        due("as dear as now", x.first(), 0);
        tell(x, 0, 7, 8);
        due("both dearer later", x.first(), 1);
        LeastRue ways = roads(road(0, 1), road(1, 2), road(0, 2));
        ways.kind(1, 2);
        ways.price(0, 1);
        ways.price(1, 50);
        ways.price(2, 50);
        tell(ways, 0, 10, 0, 10);
        tell(ways, 1, 10, 10, 0);
        due("a road that is bought in vain in one of the worlds", ways.first(), 1);

        sentence("Promise 32: -2; -6");
        x.kind(0, 3);
        due("no choices", x.first(), -6);
        x.forget(0);
        due("no worlds, no choices", x.first(), -2);
        x.kind(0, 1);
        due("no worlds", x.first(), -2);
    }

    private void firstOfMany() {
        sentence("Promise 32: The bits .. for which that is least (many THINGS)");
        LeastRue full = alike(12, 12, 0, 0);
        tell(full, 4, 1, 1, 1, 1, 1, 1, 1, 1, 1, 1, 1, 1);
        due("all of twelve are free now", full.first(), 4095);
        full.price(0, 1);
        due("but one", full.first(), 4094);
        full.price(11, 2);
        due("but two", full.first(), 2046);
        full.kind(0, 4);
        due("four of the others", full.first(), 0b11110);
        full.kind(0, 0);
        due("nothing is needed", full.first(), 0);
        LeastRue wide = alike(12, 4, 0, 0);
        for (int t = 0; t < 12; t++) {
            wide.price(t, 1000);
        }
        tell(wide, 0, 1000, 1000, 1000, 1000, 1000, 1000, 1000, 1000, 1000, 1000, 1000, 1000);
        due("as dear now as later", wide.first(), 0);
        due("both at the greatest", wide.two(0), 4000);
        due("one now, the rest later", wide.two(2048), 4000);
    }
}
