/** Each sentence of promises 1 to 10 and 33 to 35, the calls that change something, that names a boundary case. */
public final class BoundaryChangesTest extends Sentences {
    private interface Call {
        int on(LeastRue x);
    }

    private BoundaryChangesTest() {
        super("BoundaryChangesTest");
    }

    public static void main(String[] args) {
        BoundaryChangesTest test = new BoundaryChangesTest();
        test.newObject();
        test.thing();
        test.thingWithoutRoom();
        test.ends();
        test.posts();
        test.price();
        test.kind();
        test.sheet();
        test.sheetBelowZero();
        test.write();
        test.world();
        test.worldOfWhatIsNotThere();
        test.worldOfWrongNumbers();
        test.forget();
        test.image();
        test.back();
        test.backWithSheets();
        test.statusAheadOfAny();
        test.statusOfEachCall();
        test.statusAndQuestions();
        test.refusalsChangeNothing();
        test.end();
    }

    private void newObject() {
        sentence("Promise 1: No THINGS, SHEETS, WORLDS; SOME of 0");
        LeastRue x = new LeastRue();
        int[] counts = {0, 1, 0, 0, 0, 0};
        for (int what = 0; what < counts.length; what++) {
            due("count(" + what + ")", x.count(what), counts[what]);
        }
        due("no thing 0", x.of(0, 0), -1);
        due("no hold of it", x.hold(0), -1);
        due("no ends of it", x.ends(0, 0, 0), -2);
        due("no sheet 0", x.write(0, 0, 0), -2);
        due("no world 0", x.costIn(0, 0), -1);
        due("the empty choice", x.choice(0), 0);
        due("found", x.find(0), 0);
        due("its cost", x.cost(0, 0), 0);
        due("bits beyond no things", x.cost(0, 1), -1);
        due("cheapest", x.cheapest(0), 0);
        due("cheapest beyond no things", x.cheapest(1), -1);
        due("its rue", x.rue(0), 0);
        due("its rival", x.rival(0), 0);
        due("best, many, middle", x.best() * 100 + x.many() * 10 + x.middle(), 10);
        due("few", x.few(0), 0);
        due("no rue of no worlds", x.rueOf(0), -1);
        due("no best of no worlds", x.bestOf(), -2);
        due("two of no worlds", x.two(0), -2);
        due("first of no worlds", x.first(), -2);
        due("no image", x.back(0), -2);
        LeastRue y = new LeastRue();
        y.world(0, 0, 0);
        due("a world without things: the empty choice costs nothing", y.costIn(0, 0), 0);
        due("two without things", y.two(0), 0);
        due("two beyond no things", y.two(1), -1);
        due("first without things", y.first(), 0);
        due("lots without things", y.lots(0, 0, 0) * 10 + y.lots(0, 0, 1), 1);
        due("front without things", y.front(0, 0, -1) * 10 + y.front(0, 0, 0), 10);
    }

    private void thing() {
        sentence("Promise 2: One more THING with ENDS: its number. -1");
        LeastRue x = new LeastRue();
        dueWithStatus("thing(0, 0)", x, x.thing(0, 0), 0);
        dueWithStatus("thing(1000, 1000)", x, x.thing(1000, 1000), 1);
        dueWithStatus("thing(0, 1000)", x, x.thing(0, 1000), 2);
        dueWithStatus("thing(1001, 1001)", x, x.thing(1001, 1001), -1);
        dueWithStatus("thing(-1, 0)", x, x.thing(-1, 0), -1);
        dueWithStatus("thing(0, 1001)", x, x.thing(0, 1001), -1);
        dueWithStatus("thing(500, 499)", x, x.thing(500, 499), -1);
        dueWithStatus("the next number after refusals", x, x.thing(1, 1), 3);
        due("its choices with it", x.kind(0, 1), 4);
        x.thing(0, 0);
        due("one choice more", x.count(1), 5);
    }

    private void thingWithoutRoom() {
        sentence("Promise 2: -5 (12;");
        LeastRue x = alike(11, 1, 2, 3);
        dueWithStatus("the twelfth", x, x.thing(4, 5), 11);
        dueWithStatus("the thirteenth", x, x.thing(6, 7), -5);
        due("things", x.count(0), 12);
        due("choices", x.count(1), 12);
        due("the twelfth is as it was", x.of(11, 0) * 10 + x.of(11, 1), 45);
        due("no thing 12", x.of(12, 0), -1);
        LeastRue roads = new LeastRue();
        for (int t = 0; t < 12; t++) {
            roads.thing(0, 0);
        }
        roads.kind(2, 1);
        dueWithStatus("the thirteenth with one choice", roads, roads.thing(0, 0), -5);

        sentence("Promise 2: or there would be more than 500 CHOICES)");
        LeastRue y = alike(11, 5, 2, 3);
        tell(y, 0, 1, 1, 1, 1, 1, 1, 1, 1, 1, 1, 1);
        dueWithStatus("792 choices", y, y.thing(0, 9), -5);
        due("things", y.count(0), 11);
        due("choices", y.count(1), 462);
        due("the last choice", y.choice(461), 0b11111 << 6);
        due("no thing 11", y.of(11, 0), -1);
        due("bits beyond the things", y.cheapest(2048), -1);
        due("the cost of the last choice", y.cost(461, 2047), 15);
        y.kind(0, 4);
        dueWithStatus("495 choices", y, y.thing(5, 6), 11);
        due("its low end is its own", y.of(11, 0), 5);
        due("its cost in a world", y.of(11, 10), 0);
        LeastRue pairs = alike(11, 0, 0, 0);
        due("pairs of post 0", pairs.kind(3, 1), 11);
        due("a thing with posts 0, 0 is one more", pairs.thing(0, 0) * 100 + pairs.count(1), 1112);
    }

    private void ends() {
        sentence("Promise 3: ENDS of a THING become others: 0. -1; -2");
        LeastRue x = alike(2, 1, 3, 4);
        dueWithStatus("ends(1, 0, 1000)", x, x.ends(1, 0, 1000), 0);
        due("low", x.of(1, 0), 0);
        due("high", x.of(1, 1), 1000);
        due("thing 0 keeps its own", x.of(0, 0) * 10 + x.of(0, 1), 34);
        dueWithStatus("ends(1, 0, 1001)", x, x.ends(1, 0, 1001), -1);
        dueWithStatus("ends(1, -1, 0)", x, x.ends(1, -1, 0), -1);
        dueWithStatus("ends(1, 2, 1)", x, x.ends(1, 2, 1), -1);
        dueWithStatus("ends(2, 0, 0)", x, x.ends(2, 0, 0), -2);
        dueWithStatus("ends(11, 0, 0)", x, x.ends(11, 0, 0), -2);
        dueWithStatus("ends(1, 2, 2)", x, x.ends(1, 2, 2), 0);
        due("low then", x.of(1, 0), 2);
        LeastRue full = alike(12, 1, 3, 4);
        dueWithStatus("ends(11, 0, 0)", full, full.ends(11, 0, 0), 0);
        due("best by the new ends", full.best(), 11);
    }

    private void posts() {
        sentence("Promise 4: POSTS of a THING: 0. -1; -2");
        LeastRue x = alike(2, 1, 0, 0);
        dueWithStatus("posts(1, 0, 5)", x, x.posts(1, 0, 5), 0);
        dueWithStatus("posts(1, 5, 0)", x, x.posts(1, 5, 0), 0);
        dueWithStatus("posts(1, 6, 0)", x, x.posts(1, 6, 0), -1);
        dueWithStatus("posts(1, 0, 6)", x, x.posts(1, 0, 6), -1);
        dueWithStatus("posts(1, -1, 0)", x, x.posts(1, -1, 0), -1);
        dueWithStatus("posts(1, 0, -1)", x, x.posts(1, 0, -1), -1);
        dueWithStatus("posts(2, 0, 0)", x, x.posts(2, 0, 0), -2);
        dueWithStatus("posts(11, 0, 0)", x, x.posts(11, 0, 0), -2);
        due("as they were", x.of(1, 2) * 10 + x.of(1, 3), 50);
        x.kind(1, 5);
        due("a way", x.count(1), 1);
        x.posts(0, 0, 5);
        due("one more by new posts", x.count(1), 2);

        // nothing reaches this: twelve roads between six POSTS make at most 1/6 * (24/5)^5 < 425 trees (their number
        // is a sixth of the product of five numbers that add up to 24), each way lies in a tree that holds no other
        // way, and pairs are at most 3^4; so the most that there are must be taken
        sentence("Promise 4: -5 there would be more than 500 CHOICES");
        LeastRue most = roads(road(0, 1), road(0, 2), road(1, 2), road(0, 3), road(1, 4), road(2, 5), road(3, 4),
            road(3, 5), road(4, 5), road(0, 4), road(1, 5), road(2, 2));
        most.kind(2, 6);
        dueWithStatus("the road that makes the most trees", most, most.posts(11, 2, 3), 0);
        due("trees", most.count(1), 384);
    }

    private void price() {
        sentence("Promise 5: The PRICE of a THING: what it was. -1; -2");
        LeastRue x = alike(2, 1, 0, 0);
        dueWithStatus("it was 0", x, x.price(1, 1000), 0);
        dueWithStatus("it was 1000", x, x.price(1, 0), 1000);
        dueWithStatus("it was 0 again", x, x.price(1, 4), 0);
        dueWithStatus("price -1", x, x.price(1, -1), -1);
        dueWithStatus("price 1001", x, x.price(1, 1001), -1);
        dueWithStatus("price of no thing 2", x, x.price(2, 0), -2);
        dueWithStatus("price of no thing 11", x, x.price(11, 0), -2);
        due("as it was", x.of(1, 4), 4);
        due("thing 0 keeps its own", x.of(0, 4), 0);
    }

    private void kind() {
        sentence("Promise 6: KIND of CHOICES and k (of 0: 0 .. 12): how many CHOICES there are. -1");
        LeastRue x = alike(3, 1, 0, 0);
        dueWithStatus("kind(0, 0)", x, x.kind(0, 0), 1);
        dueWithStatus("kind(0, 12)", x, x.kind(0, 12), 0);
        dueWithStatus("kind(0, 2)", x, x.kind(0, 2), 3);
        int[][] wrong = {{0, -1}, {0, 13}, {1, 0}, {1, 6}, {2, 0}, {2, 7}, {3, -1}, {3, 7}, {-1, 1}, {4, 1}, {4, 0},
            {MIN, 1}, {MAX, 1}, {0, MIN}, {0, MAX}, {1, MAX}, {2, MIN}, {3, MAX}, {1 << 16, 1}};
        for (int[] w : wrong) {
            dueWithStatus("kind(" + w[0] + ", " + w[1] + ")", x, x.kind(w[0], w[1]), -1);
        }
        due("kind as it was", x.count(3), 0);
        due("k as it was", x.count(4), 2);
        due("choices as they were", x.count(1), 3);

        sentence("Promise 6: -5");
        LeastRue full = alike(12, 3, 0, 0);
        for (int k = 5; k <= 7; k++) {
            dueWithStatus("kind(0, " + k + ") of twelve", full, full.kind(0, k), -5);
        }
        due("k as it was", full.count(4), 3);
        due("choices as they were", full.count(1), 220);
        due("the last of them", full.choice(219), 7 << 9);
        full.kind(2, 1);
        dueWithStatus("from another kind", full, full.kind(0, 6), -5);
        due("the other kind stays", full.count(3), 2);
        due("its k stays", full.count(4), 1);
        due("its choice stays", full.choice(0), 0);
    }

    private void sheet() {
        sentence("Promise 7: A SHEET becomes a row of a sort with n numbers 0: n");
        LeastRue x = alike(2, 1, 0, 0);
        dueWithStatus("a hundred", x, x.sheet(0, 2, 100), 100);
        dueWithStatus("the last place", x, x.write(0, 99, 8), 0);
        dueWithStatus("behind it", x, x.write(0, 100, 8), -3);
        dueWithStatus("none", x, x.sheet(1, 2, 0), 0);
        due("it is there all the same", x.count(5), 2);
        dueWithStatus("it has no place", x, x.write(1, 0, 8), -3);
        x.world(0, 0, 98);
        due("place 98", x.of(0, 10), 0);
        due("place 99", x.of(1, 10), 8);
        dueWithStatus("made again", x, x.sheet(0, 2, 100), 100);
        x.world(0, 0, 98);
        due("place 99 is 0 again", x.of(1, 10), 0);
        due("still as many", x.count(5), 2);
        x.sheet(0, 2, 2);
        x.write(0, 0, 7);
        x.write(0, 1, 9);
        x.sheet(0, 2, 1);
        x.sheet(0, 2, 2);
        x.world(0, 0, 0);
        due("shortened and made longer, all is 0", x.of(0, 10) + x.of(1, 10), 0);
        x.sheet(0, 0, 1);
        x.sheet(0, 2, 1);
        due("a new sort", readBack(x, 0, 300), 300);

        sentence("Promise 7: -1 SHEET, sort, n above 100");
        int[][] wrong = {{-1, 0, 1}, {4, 0, 1}, {MIN, 0, 1}, {MAX, 0, 1}, {0, -1, 1}, {0, 3, 1}, {0, MIN, 1},
            {0, MAX, 1}, {0, 0, 101}, {0, 0, MAX}, {0, 2, 101}};
        for (int[] w : wrong) {
            String call = "sheet(" + w[0] + ", " + w[1] + ", " + w[2] + ")";
            dueWithStatus(call, x, x.sheet(w[0], w[1], w[2]), -1);
        }
        due("sheets as they were", x.count(5), 2);
        x.world(0, 0, 0);
        due("its number as it was", x.of(0, 10), 300);
    }

    private void sheetBelowZero() {
        sentence("Promise 7: -4 (then it is missing)");
        LeastRue x = alike(1, 1, 0, 0);
        x.sheet(0, 2, 1);
        x.sheet(3, 2, 1);
        x.write(0, 0, 6);
        dueWithStatus("a length -1", x, x.sheet(0, 2, -1), -4);
        due("one left", x.count(5), 1);
        dueWithStatus("it can't be written", x, x.write(0, 0, 1), -2);
        due("a world of it is all 0", x.world(0, 0, 0) + x.of(0, 10), 1);
        dueWithStatus("a missing one with a length below 0", x, x.sheet(0, 0, -1), -4);
        dueWithStatus("the least length", x, x.sheet(3, 1, MIN), -4);
        due("none left", x.count(5), 0);
        x.sheet(0, 2, 1);
        x.world(0, 0, 0);
        due("made again, it is 0", x.of(0, 10), 0);
        x.write(0, 0, 6);
        dueWithStatus("a wrong sort comes first", x, x.sheet(0, 3, -1), -1);
        x.world(0, 0, 0);
        due("and leaves it as it was", x.of(0, 10), 6);
    }

    private void write() {
        sentence("Promise 8: A number of it, as a byte, short, int has its lowest bits: 0");
        LeastRue x = alike(2, 1, 0, 0);
        x.sheet(0, 0, 2);
        dueWithStatus("the greatest int as a byte is -1", x, x.write(0, 0, MAX), 0);
        due("no cost", x.world(0, 0, 0), -1);
        dueWithStatus("the least int as a byte is 0", x, x.write(0, 0, MIN), 0);
        due("a cost", x.world(0, 0, 0), 1);
        due("byte 127", readBack(x, 0, 127), 127);
        due("byte 128 wraps around to -128", readBack(x, 0, 128), -1);
        due("byte 256 wraps around to 0", readBack(x, 0, 256), 0);
        due("byte 1000 wraps around to -24", readBack(x, 0, 1000), -1);
        x.sheet(1, 1, 2);
        due("short 1000", readBack(x, 1, 1000), 1000);
        due("short 32768 wraps around to -32768", readBack(x, 1, 32768), -1);
        due("short 65536 + 1000 wraps around to 1000", readBack(x, 1, 66536), 1000);
        x.sheet(2, 2, 2);
        due("int 65536 + 1000 does not", readBack(x, 2, 66536), -1);
        x.write(2, 0, 3);
        x.write(2, 1, 4);
        x.world(0, 2, 0);
        due("each place has its own number", x.of(0, 10) * 10 + x.of(1, 10), 34);

        sentence("Promise 8: -1 no SHEET 0 .. 3; -2 it is missing; -3");
        int[] noSheet = {-1, 4, MIN, MAX};
        for (int s : noSheet) {
            dueWithStatus("write in " + s, x, x.write(s, 0, 0), -1);
        }
        dueWithStatus("write in a missing one", x, x.write(3, 0, 0), -2);
        int[] noPlace = {-1, 2, 3, 99, 100, MIN, MAX};
        for (int i : noPlace) {
            dueWithStatus("write at " + i, x, x.write(2, i, 0), -3);
        }
        x.world(0, 2, 0);
        due("the numbers as they were", x.of(0, 10) * 10 + x.of(1, 10), 34);
    }

    private void world() {
        sentence("Promise 9: WORLD w becomes what stands in a SHEET from a place on, a number for each THING: how many WORLDS are there");
        LeastRue x = alike(2, 1, 0, 0);
        x.sheet(0, 2, 100);
        x.write(0, 0, 1);
        x.write(0, 1, 2);
        x.write(0, 2, 3);
        x.write(0, 99, 9);
        dueWithStatus("from place 0", x, x.world(0, 0, 0), 1);
        due("costs", x.of(0, 10) * 10 + x.of(1, 10), 12);
        dueWithStatus("from place 1", x, x.world(7, 0, 1), 2);
        due("costs then", x.of(0, 17) * 10 + x.of(1, 17), 23);
        dueWithStatus("told again", x, x.world(7, 0, 2), 2);
        due("costs of the new telling", x.of(0, 17) * 10 + x.of(1, 17), 30);
        for (int w = 1; w < 7; w++) {
            due("world " + w, x.world(w, 0, 0), w + 2);
        }
        dueWithStatus("all eight, one told again", x, x.world(0, 0, 98), 8);
        due("the last places", x.of(0, 10) * 10 + x.of(1, 10), 9);

        sentence("Promise 9: -1 w, SHEET, a place below 0");
        int[][] wrong = {{-1, 0, 0}, {8, 0, 0}, {MIN, 0, 0}, {MAX, 0, 0}, {32, 0, 0}, {0, -1, 0}, {0, 4, 0}, {0, MIN, 0},
            {0, MAX, 0}, {0, 0, -1}, {0, 0, MIN}, {0, 1, -1}};
        for (int[] w : wrong) {
            dueWithStatus("world(" + w[0] + ", " + w[1] + ", " + w[2] + ")", x, x.world(w[0], w[1], w[2]), -1);
        }
        due("the costs as they were", x.of(0, 10) * 10 + x.of(1, 10), 9);
    }

    private void worldOfWhatIsNotThere() {
        sentence("Promise 9: (what is not there: 0;");
        LeastRue x = alike(3, 1, 0, 0);
        x.sheet(0, 2, 2);
        x.write(0, 0, 4);
        x.write(0, 1, 5);
        x.world(0, 0, 0);
        due("one number is not there", x.of(0, 10) * 100 + x.of(1, 10) * 10 + x.of(2, 10), 450);
        x.world(0, 0, 1);
        due("two are not there", x.of(0, 10) * 100 + x.of(1, 10) * 10 + x.of(2, 10), 500);
        int[] far = {2, 3, 100, 101, MAX - 1, MAX};
        for (int from : far) {
            tell(x, 0, 9, 9, 9);
            dueWithStatus("from place " + from, x, x.world(0, 0, from), 1);
            due("none is there", x.of(0, 10) + x.of(1, 10) + x.of(2, 10), 0);
        }
        tell(x, 0, 9, 9, 9);
        x.sheet(1, 0, 0);
        dueWithStatus("an empty sheet", x, x.world(0, 1, 0), 1);
        due("all 0", x.of(0, 10) + x.of(1, 10) + x.of(2, 10), 0);

        sentence("Promise 9: the SHEET missing: all 0;");
        tell(x, 0, 9, 9, 9);
        dueWithStatus("a missing sheet", x, x.world(0, 2, 0), 1);
        due("all costs", x.of(0, 10) + x.of(1, 10) + x.of(2, 10), 0);
        x.sheet(0, 2, -1);
        dueWithStatus("one that came to be missing", x, x.world(5, 0, 0), 2);
        due("all of them, too", x.of(0, 15) + x.of(1, 15) + x.of(2, 15), 0);

        sentence("Promise 9: also THINGS that come later: 0)");
        LeastRue y = alike(1, 1, 0, 0);
        tell(y, 2, 4, 5, 6);
        y.thing(0, 0);
        due("a later thing, though its number stands in the sheet", y.of(1, 12), 0);
        y.thing(0, 0);
        due("one that comes after it", y.of(2, 12), 0);
        due("the first keeps its own", y.of(0, 12), 4);
        LeastRue z = alike(1, 1, 0, 0);
        tell(z, 2, 4);
        z.image(0);
        z.thing(0, 0);
        z.posts(1, 3, 4);
        z.price(1, 8);
        tell(z, 2, 4, 7);
        z.back(0);
        z.thing(1, 2);
        due("a later thing in the place of one that is gone", z.of(1, 12), 0);
        due("nor has it that one's posts and price", z.of(1, 2) + z.of(1, 3) + z.of(1, 4), 0);
    }

    private void worldOfWrongNumbers() {
        sentence("Promise 9: then -1 a number not 0 .. 1000");
        LeastRue x = alike(2, 1, 0, 0);
        tell(x, 0, 6, 7);
        dueWithStatus("-1 first", x, tell(x, 0, -1, 3), -1);
        dueWithStatus("-1 last", x, tell(x, 0, 3, -1), -1);
        dueWithStatus("1001 first", x, tell(x, 0, 1001, 3), -1);
        dueWithStatus("1001 last", x, tell(x, 0, 3, 1001), -1);
        dueWithStatus("the least int", x, tell(x, 0, 3, MIN), -1);
        dueWithStatus("the greatest int", x, tell(x, 0, MAX, 3), -1);
        due("the costs as they were", x.of(0, 10) * 10 + x.of(1, 10), 67);
        dueWithStatus("another world", x, tell(x, 1, 1001, 3), -1);
        due("it did not come", x.count(2), 1);
        due("nor its costs", x.of(0, 11), -1);
        dueWithStatus("0 and 1000", x, tell(x, 1, 0, 1000), 2);
        dueWithStatus("wrong numbers that no thing asks for", x, tell(x, 1, 0, 0, 1001, -1), 2);
        dueWithStatus("a wrong number at the place", x, tell(x, 1, 1001, 5), -1);
        dueWithStatus("from the place behind it", x, x.world(1, 3, 1), 2);
        due("its number", x.of(0, 11), 5);
        LeastRue none = new LeastRue();
        dueWithStatus("wrong numbers without things", none, tell(none, 0, 1001), 1);
    }

    private void forget() {
        sentence("Promise 10: WORLD w is not there any more: 0. -1; -2");
        LeastRue x = alike(1, 1, 0, 0);
        for (int w = 0; w < 8; w++) {
            dueWithStatus("world " + w + " never was there", x, x.forget(w), -2);
        }
        tell(x, 0, 1);
        tell(x, 7, 2);
        int[] wrong = {-1, 8, 32, 39, MIN, MAX};
        for (int w : wrong) {
            dueWithStatus("forget(" + w + ")", x, x.forget(w), -1);
        }
        due("both are there", x.count(2), 2);
        dueWithStatus("forget(7)", x, x.forget(7), 0);
        dueWithStatus("forget(7) again", x, x.forget(7), -2);
        due("one is there", x.count(2), 1);
        due("its cost is gone", x.of(0, 17), -1);
        due("the other's is there", x.of(0, 10), 1);
        dueWithStatus("forget(0)", x, x.forget(0), 0);
        due("none is there", x.count(2), 0);
        x.world(7, 1, 0);
        due("told again", x.of(0, 17), 0);
    }

    private void image() {
        sentence("Promise 33: IMAGE k (0 .. 2): 0; -1");
        LeastRue x = alike(1, 1, 1, 1);
        for (int k = 0; k < 3; k++) {
            x.ends(0, k, k);
            dueWithStatus("image(" + k + ")", x, x.image(k), 0);
        }
        int[] wrong = {-1, 3, MIN, MAX};
        for (int k : wrong) {
            dueWithStatus("image(" + k + ")", x, x.image(k), -1);
        }
        x.ends(0, 9, 9);
        for (int k = 0; k < 3; k++) {
            x.back(k);
            due("each image has its own", x.of(0, 0), k);
        }

        sentence("Promise 33: THINGS with all that is theirs, KIND and k, WORLDS that are there are kept");
        LeastRue full = full();
        full.image(0);
        full.thing(0, 1000);
        full.ends(0, 1, 1);
        full.posts(1, 5, 5);
        full.price(2, 1000);
        full.kind(0, 1);
        for (int w = 0; w < 8; w++) {
            full.world(w, 0, 0);
        }
        full.forget(4);
        full.back(0);
        LeastRue twin = full();
        twin.image(0);
        same("all of it after back", answers(full), answers(twin));
        LeastRue none = new LeastRue();
        none.image(2);
        none.thing(1, 2);
        none.kind(0, 1);
        none.world(0, 0, 0);
        none.back(2);
        due("an image of nothing: things", none.count(0), 0);
        due("choices", none.count(1), 1);
        due("worlds", none.count(2), 0);
        LeastRue lost = alike(1, 2, 0, 0);
        lost.image(0);
        lost.kind(0, 1);
        lost.back(0);
        due("an image without choices", lost.count(1), 0);
        due("best then", lost.best(), -6);
        LeastRue most = alike(12, 4, 1, 2);
        most.image(1);
        most.kind(0, 0);
        most.back(1);
        due("an image of as much as there may be", most.count(0) * 1000 + most.count(1), 12495);
        due("its thirteenth", most.thing(0, 0), -5);
    }

    private void back() {
        sentence("Promise 34: -1; -2 it was not kept");
        LeastRue x = alike(1, 1, 1, 1);
        for (int k = 0; k < 3; k++) {
            dueWithStatus("back(" + k + ") ahead of any image", x, x.back(k), -2);
        }
        int[] wrong = {-1, 3, MIN, MAX};
        for (int k : wrong) {
            dueWithStatus("back(" + k + ")", x, x.back(k), -1);
        }
        x.image(1);
        dueWithStatus("image 0 was not kept", x, x.back(0), -2);
        dueWithStatus("image 1 was", x, x.back(1), 0);
        dueWithStatus("image 2 was not", x, x.back(2), -2);
        dueWithStatus("back a second time", x, x.back(1), 0);
        x.ends(0, 5, 5);
        x.back(0);
        due("a refused one changes nothing", x.of(0, 0), 5);
        x.back(1);
        due("an image stays as it was kept", x.of(0, 0), 1);
        x.ends(0, 6, 6);
        x.image(1);
        x.ends(0, 7, 7);
        x.back(1);
        due("and is replaced by a later one", x.of(0, 0), 6);
    }

    private void backWithSheets() {
        sentence("Promise 34: (SHEETS stay)");
        LeastRue x = alike(1, 1, 0, 0);
        x.sheet(0, 2, 1);
        x.write(0, 0, 5);
        x.sheet(1, 2, 1);
        x.image(0);
        x.write(0, 0, 6);
        x.sheet(1, 2, -1);
        x.sheet(2, 2, 3);
        x.back(0);
        due("sheets there", x.count(5), 2);
        x.world(0, 0, 0);
        due("what was written stays", x.of(0, 10), 6);
        due("what was dropped is missing", x.write(1, 0, 0), -2);
        due("what came is there", x.write(2, 2, 0), 0);
        due("with its length", x.write(2, 3, 0), -3);
    }

    private void statusAheadOfAny() {
        sentence("Promise 35: 0 if it was not, or ahead of any");
        LeastRue x = new LeastRue();
        due("of a new object", x.status(), 0);
        due("asked again", x.status(), 0);
        x.best();
        due("after a question", x.status(), 0);
        x.thing(-1, 0);
        due("after a refusal", x.status(), -1);
        due("asking does not change it", x.status(), -1);
        x.thing(0, 0);
        due("after a call that was not refused", x.status(), 0);
    }

    private void statusOfEachCall() {
        sentence("Promise 35: What the latest call of thing, ends, posts, price, kind, sheet, write, world, forget, image, back was REFUSED by");
        Call[] fine = {x -> x.thing(0, 0), x -> x.ends(0, 0, 0), x -> x.posts(0, 0, 1), x -> x.price(0, 0),
            x -> x.kind(2, 3), x -> x.sheet(0, 0, 0), x -> x.write(1, 0, 0), x -> x.world(0, 0, 0), x -> x.forget(0),
            x -> x.image(0), x -> x.back(1)};
        Call[] wrong = {x -> x.thing(1, 0), x -> x.ends(0, 1, 0), x -> x.posts(0, 0, 6), x -> x.price(0, -1),
            x -> x.kind(4, 0), x -> x.sheet(0, 0, 101), x -> x.write(4, 0, 0), x -> x.world(8, 0, 0), x -> x.forget(8),
            x -> x.image(3), x -> x.back(3)};
        Call[] noSuch = {x -> x.ends(3, 0, 0), x -> x.posts(3, 0, 0), x -> x.price(3, 0), x -> x.write(2, 0, 0),
            x -> x.forget(1), x -> x.back(2)};
        for (int first = 0; first < fine.length; first++) {
            LeastRue x = full();
            wrong[first].on(x);
            due("-1 of call " + first, x.status(), -1);
            for (int next = 0; next < fine.length; next++) {
                LeastRue y = full();
                wrong[first].on(y);
                due("answer of call " + next, fine[next].on(y) >= 0 ? 1 : 0, 1);
                due("0 of call " + next + " after -1 of call " + first, y.status(), 0);
                wrong[first].on(y);
                due("-1 of call " + first + " after 0 of call " + next, y.status(), -1);
            }
        }
        for (int call = 0; call < noSuch.length; call++) {
            LeastRue x = full();
            due("answer -2 of call " + call, noSuch[call].on(x), -2);
            due("-2 of call " + call, x.status(), -2);
        }
        LeastRue x = full();
        dueWithStatus("-3 of write", x, x.write(1, 2, 0), -3);
        dueWithStatus("-4 of sheet", x, x.sheet(1, 0, -1), -4);
        LeastRue y = alike(12, 1, 0, 0);
        dueWithStatus("-5 of thing", y, y.thing(0, 0), -5);
        dueWithStatus("-5 of kind", y, y.kind(0, 6), -5);
    }

    private void statusAndQuestions() {
        sentence("Promise 35: the latest call of .. (no other)");
        LeastRue x = alike(1, 2, 0, 0);
        x.write(0, 0, 0);
        int wrong = x.count(9) + x.choice(9) + x.find(9) + x.of(9, 9) + x.cost(9, 9) + x.cheapest(9) + x.cheapest(0)
            + x.rue(9) + x.rival(9) + x.best() + x.middle() + x.hold(9) + x.dearest(9, 99) + x.few(99) + x.few(0)
            + x.costIn(9, 9) + x.cheapestIn(9) + x.cheapestIn(0) + x.rueOf(9) + x.bestOf() + x.front(9, 9, 9)
            + (int) x.lots(9, 9, 9) + x.two(9) + x.first();
        due("all are wrong", wrong < 0 ? 1 : 0, 1);
        due("questions with wrong numbers leave it", x.status(), -2);
        x.kind(0, 1);
        x.few(99);
        x.bestOf();
        due("nor do they set it", x.status(), 0);
        x.write(0, 0, 0);
        due("fine questions", x.best() + x.hold(0) + x.count(0), 4);
        due("leave it, too", x.status(), -2);
    }

    private void refusalsChangeNothing() {
        sentence("A call that is REFUSED changes nothing but the status");
        Call[] refused = {x -> x.thing(1, 0), x -> x.thing(0, 1001), x -> x.ends(0, 1, 0), x -> x.ends(3, 0, 0),
            x -> x.ends(-1, 0, 0), x -> x.posts(0, 0, 6), x -> x.posts(0, 6, 0), x -> x.posts(3, 1, 1),
            x -> x.price(0, 1001), x -> x.price(3, 1), x -> x.kind(4, 1), x -> x.kind(0, 13), x -> x.kind(1, 0),
            x -> x.kind(2, 7), x -> x.kind(3, 7), x -> x.sheet(4, 0, 1), x -> x.sheet(1, 3, 1), x -> x.sheet(1, 0, 101),
            x -> x.sheet(1, -1, -1), x -> x.write(4, 0, 9), x -> x.write(2, 0, 9), x -> x.write(1, 2, 9),
            x -> x.write(1, -1, 9), x -> x.world(8, 1, 0), x -> x.world(0, 4, 0), x -> x.world(0, 1, -1),
            x -> x.forget(1), x -> x.forget(8), x -> x.image(3), x -> x.image(-1), x -> x.back(0), x -> x.back(3)};
        String want = answers(full());
        for (int call = 0; call < refused.length; call++) {
            LeastRue x = full();
            due("refused call " + call, refused[call].on(x) < 0 ? 1 : 0, 1);
            same("after refused call " + call, answers(x), want);
        }
        LeastRue twin = full();
        twin.sheet(2, 2, 3);
        twin.write(2, 2, 1001);
        LeastRue x = full();
        x.sheet(2, 2, 3);
        x.write(2, 2, 1001);
        due("a world of a wrong number", x.world(0, 2, 0), -1);
        same("after it", answers(x), answers(twin));
    }
}
