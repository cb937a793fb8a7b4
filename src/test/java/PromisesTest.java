/** Each promise of the document by hand: ordinary inputs, the edges that it names, wrong inputs. */
public final class PromisesTest extends Benches {
    private final Check check = new Check("PromisesTest");

    public static void main(String[] args) {
        PromisesTest test = new PromisesTest();
        test.newObject();
        test.things();
        test.endsOfThings();
        test.postsOfThings();
        test.prices();
        test.kindsAndTheirBounds();
        test.some();
        test.ways();
        test.trees();
        test.pairs();
        test.sheets();
        test.writing();
        test.worlds();
        test.worldsAndLaterThings();
        test.forgetting();
        test.counts();
        test.choicesAndFinding();
        test.ofThings();
        test.costsAndCheapest();
        test.ruesAndRivals();
        test.bestAndMany();
        test.middles();
        test.holds();
        test.fewCosts();
        test.singleWorlds();
        test.allWorlds();
        test.fronts();
        test.lotsDrawn();
        test.twoSteps();
        test.imagesAndBack();
        test.statusOfCalls();
        test.withoutChoices();
        test.check.end();
    }

    private void due(int promise, String call, long got, long want) {
        check.due("promise " + promise + ": " + call, got, want);
    }

    private void newObject() {
        LeastRue x = new LeastRue();
        due(1, "things", x.count(0), 0);
        due(1, "choices", x.count(1), 1);
        due(1, "worlds", x.count(2), 0);
        due(1, "kind", x.count(3), 0);
        due(1, "k", x.count(4), 0);
        due(1, "sheets", x.count(5), 0);
        due(1, "the empty set", x.choice(0), 0);
        due(1, "status", x.status(), 0);
        due(1, "NONE", LeastRue.NONE, -1);
    }

    private void things() {
        LeastRue x = new LeastRue();
        due(2, "thing(0, 0)", x.thing(0, 0), 0);
        due(2, "thing(1000, 1000)", x.thing(1000, 1000), 1);
        due(2, "low above high", x.thing(2, 1), -1);
        due(2, "low below 0", x.thing(-1, 1), -1);
        due(2, "high above 1000", x.thing(0, 1001), -1);
        due(2, "far out", x.thing(MIN, MAX), -1);
        due(2, "things after refusals", x.count(0), 2);
        due(2, "posts at first", x.of(1, 2) + x.of(1, 3) + x.of(1, 4), 0);
        for (int t = 2; t < 12; t++) {
            due(2, "thing " + t, x.thing(t, t), t);
        }
        due(2, "a thirteenth", x.thing(1, 2), -5);
        due(2, "a wrong thirteenth", x.thing(2, 1), -1);
        due(2, "things at most", x.count(0), 12);
        LeastRue y = heap(5, ends(1, 2));
        for (int t = 1; t < 11; t++) {
            y.thing(t, t);
        }
        due(2, "five of eleven", y.count(1), 462);
        due(2, "five of twelve", y.thing(0, 1), -5);
        due(2, "wrong ends come first", y.thing(1, 0), -1);
        due(2, "things stay", y.count(0), 11);
        due(2, "choices stay", y.count(1), 462);
        due(2, "the last choice stays", y.choice(461), 0x7C0);
        y.kind(0, 4);
        due(2, "four of twelve", y.thing(0, 1), 11);
        due(2, "choices then", y.count(1), 495);
    }

    private void endsOfThings() {
        LeastRue x = heap(1, ends(1, 2), ends(3, 4));
        due(3, "ends", x.ends(1, 0, 1000), 0);
        due(3, "low", x.of(1, 0), 0);
        due(3, "high", x.of(1, 1), 1000);
        due(3, "equal ends", x.ends(0, 5, 5), 0);
        due(3, "low above high", x.ends(0, 6, 5), -1);
        due(3, "too high", x.ends(0, 0, 1001), -1);
        due(3, "too low", x.ends(0, -1, 5), -1);
        due(3, "no such thing", x.ends(2, 0, 1), -2);
        due(3, "thing below 0", x.ends(-1, 0, 1), -2);
        due(3, "wrong ends of no thing", x.ends(2, 1, 0), -1);
        due(3, "unchanged low", x.of(0, 0), 5);
        due(3, "unchanged high", x.of(0, 1), 5);
        x.best();
        x.ends(1, 0, 0);
        due(3, "best follows the new ends", x.best(), 1);
        due(3, "rue follows the new ends", x.rue(0), 5);
    }

    private void postsOfThings() {
        LeastRue x = heap(1, ends(1, 2));
        due(4, "posts", x.posts(0, 5, 0), 0);
        due(4, "one", x.of(0, 2), 5);
        due(4, "other", x.of(0, 3), 0);
        due(4, "one above 5", x.posts(0, 6, 0), -1);
        due(4, "other above 5", x.posts(0, 0, 6), -1);
        due(4, "one below 0", x.posts(0, -1, 0), -1);
        due(4, "other below 0", x.posts(0, 0, MIN), -1);
        due(4, "no such thing", x.posts(1, 0, 0), -2);
        due(4, "thing below 0", x.posts(MIN, 0, 0), -2);
        due(4, "wrong posts of no thing", x.posts(1, 0, 6), -1);
        due(4, "unchanged", x.of(0, 2), 5);
        x.kind(1, 5);
        due(4, "a way", x.count(1), 1);
        x.posts(0, 4, 0);
        due(4, "no way any more", x.count(1), 0);
        LeastRue y = roads(new int[] {0, 1}, new int[] {0, 2}, new int[] {1, 2}, new int[] {0, 3}, new int[] {1, 4},
            new int[] {2, 5}, new int[] {3, 4}, new int[] {3, 5}, new int[] {4, 5}, new int[] {0, 4}, new int[] {1, 5},
            new int[] {2, 3});
        due(4, "the most trees that roads between six posts give", y.kind(2, 6), 384);
        due(4, "posts may still change", y.posts(11, 2, 2), 0);
    }

    private void prices() {
        LeastRue x = heap(1, ends(1, 2));
        due(5, "price was 0", x.price(0, 1000), 0);
        due(5, "price was 1000", x.price(0, 7), 1000);
        due(5, "price above 1000", x.price(0, 1001), -1);
        due(5, "price below 0", x.price(0, -1), -1);
        due(5, "no such thing", x.price(1, 7), -2);
        due(5, "thing below 0", x.price(-1, 7), -2);
        due(5, "a wrong price of no thing", x.price(1, -7), -1);
        due(5, "price is still 7", x.of(0, 4), 7);
    }

    private void kindsAndTheirBounds() {
        LeastRue x = new LeastRue();
        int[][] fine = {{0, 0}, {0, 12}, {1, 1}, {1, 5}, {2, 1}, {2, 6}, {3, 0}, {3, 6}};
        int[] counts = {1, 0, 0, 0, 1, 0, 1, 0};
        for (int i = 0; i < fine.length; i++) {
            due(6, "kind(" + fine[i][0] + ", " + fine[i][1] + ")", x.kind(fine[i][0], fine[i][1]), counts[i]);
        }
        x.kind(2, 3);
        int[][] wrong = {{0, -1}, {0, 13}, {1, 0}, {1, 6}, {2, 0}, {2, 7}, {3, -1}, {3, 7}, {-1, 1}, {4, 1},
            {MIN, 0}, {MAX, 0}, {0, MAX}, {0, MIN}};
        for (int[] w : wrong) {
            due(6, "kind(" + w[0] + ", " + w[1] + ")", x.kind(w[0], w[1]), -1);
        }
        due(6, "kind stays", x.count(3), 2);
        due(6, "k stays", x.count(4), 3);
    }

    private void some() {
        LeastRue x = new LeastRue();
        for (int t = 0; t < 12; t++) {
            x.thing(t, 20);
        }
        int[] counts = {1, 12, 66, 220, 495, -5, -5, -5, 495, 220, 66, 12, 1};
        for (int k = 0; k <= 12; k++) {
            due(6, "some " + k + " of 12", x.kind(0, k), counts[k]);
        }
        x.kind(0, 2);
        x.kind(0, 6);
        due(6, "refused: k stays", x.count(4), 2);
        due(6, "refused: choices stay", x.count(1), 66);
        due(6, "first pair", x.choice(0), 3);
        due(6, "second pair", x.choice(1), 5);
        due(6, "third pair", x.choice(2), 6);
        due(6, "last pair", x.choice(65), 0xC00);
    }

    private void ways() {
        LeastRue x = roads(new int[] {0, 1}, new int[] {1, 0}, new int[] {2, 1}, new int[] {2, 2}, new int[] {0, 3},
            new int[] {3, 2}, new int[] {4, 5});
        due(6, "ways to 2", x.kind(1, 2), 3);
        due(6, "over 1 by the first road", x.choice(0), 0b0000101);
        due(6, "over 1 by the second road", x.choice(1), 0b0000110);
        due(6, "over 3", x.choice(2), 0b0110000);
        due(6, "ways to 1", x.kind(1, 1), 3);
        due(6, "the long one", x.choice(2), 0b0110100);
        due(6, "ways to 5", x.kind(1, 5), 0);
        due(6, "ways to 3", x.kind(1, 3), 3);
        x.posts(6, 3, 5);
        due(6, "ways on to 5", x.kind(1, 5), 3);
        due(6, "straight", x.choice(0), 0b1010000);
    }

    private void trees() {
        LeastRue x = roads(new int[] {0, 1}, new int[] {1, 0}, new int[] {1, 2}, new int[] {2, 0}, new int[] {1, 1},
            new int[] {2, 3});
        due(6, "trees of one post", x.kind(2, 1), 1);
        due(6, "without roads", x.choice(0), 0);
        due(6, "trees of two posts", x.kind(2, 2), 2);
        due(6, "trees of three posts", x.kind(2, 3), 5);
        due(6, "first", x.choice(0), 0b0101);
        due(6, "last", x.choice(4), 0b1100);
        due(6, "trees of four posts", x.kind(2, 4), 5);
        due(6, "each with the only road to 3", x.choice(0), 0b100101);
        due(6, "trees of five posts", x.kind(2, 5), 0);
    }

    private void pairs() {
        LeastRue x = roads(new int[] {0, 0}, new int[] {0, 1}, new int[] {1, 0}, new int[] {1, 1}, new int[] {0, 1},
            new int[] {2, 2}, new int[] {2, 3});
        due(6, "pairs of none", x.kind(3, 0), 1);
        due(6, "pairs of one", x.kind(3, 1), 1);
        due(6, "the loop", x.choice(0), 1);
        due(6, "pairs of two", x.kind(3, 2), 3);
        due(6, "crosswise", x.choice(0), 0b00110);
        due(6, "straight", x.choice(1), 0b01001);
        due(6, "crosswise by the other", x.choice(2), 0b10100);
        due(6, "pairs of three", x.kind(3, 3), 3);
        due(6, "pairs of four", x.kind(3, 4), 0);
    }

    private void sheets() {
        LeastRue x = new LeastRue();
        due(7, "sheet", x.sheet(0, 0, 100), 100);
        due(7, "an empty sheet", x.sheet(3, 2, 0), 0);
        due(7, "sheets there", x.count(5), 2);
        due(7, "too long", x.sheet(0, 0, 101), -1);
        due(7, "no sort 3", x.sheet(0, 3, 1), -1);
        due(7, "no sort -1", x.sheet(0, -1, 1), -1);
        due(7, "no sheet 4", x.sheet(4, 0, 1), -1);
        due(7, "no sheet -1", x.sheet(-1, 0, 1), -1);
        due(7, "a wrong sort comes before a length below 0", x.sheet(0, 3, -1), -1);
        due(7, "sheets stay", x.count(5), 2);
        due(7, "place 99 is there", x.write(0, 99, 1), 0);
        due(7, "a length below 0", x.sheet(0, 0, -1), -4);
        due(7, "then it is missing", x.count(5), 1);
        due(7, "and can't be written", x.write(0, 0, 1), -2);
        due(7, "the least length", x.sheet(3, 0, MIN), -4);
        due(7, "no sheet left", x.count(5), 0);
        x.thing(1, 1);
        x.sheet(0, 2, 3);
        x.write(0, 0, 9);
        due(7, "anew", x.sheet(0, 1, 2), 2);
        x.world(0, 0, 0);
        due(7, "with numbers 0", x.of(0, 10), 0);
        due(7, "and its new length", x.write(0, 2, 1), -3);
    }

    private void writing() {
        LeastRue x = heap(1, ends(0, 0));
        due(8, "missing", x.write(0, 0, 1), -2);
        due(8, "no sheet 4", x.write(4, 0, 1), -1);
        due(8, "no sheet -1", x.write(-1, 0, 1), -1);
        x.sheet(0, 0, 2);
        due(8, "a place below 0", x.write(0, -1, 1), -3);
        due(8, "a place too far", x.write(0, 2, 1), -3);
        due(8, "far out", x.write(0, MAX, 1), -3);
        x.sheet(1, 1, 1);
        x.sheet(2, 2, 1);
        due(8, "byte 127", readBack(x, 0, 127), 127);
        due(8, "byte 128 is below 0", readBack(x, 0, 128), -1);
        due(8, "byte 256 + 5", readBack(x, 0, 261), 5);
        due(8, "byte -256", readBack(x, 0, -256), 0);
        due(8, "short 1000", readBack(x, 1, 1000), 1000);
        due(8, "short 65536 + 7", readBack(x, 1, 65543), 7);
        due(8, "short 32768 is below 0", readBack(x, 1, 32768), -1);
        due(8, "int 1000", readBack(x, 2, 1000), 1000);
        due(8, "int 65536 + 7", readBack(x, 2, 65543), -1);
        due(8, "an empty sheet has no place", x.sheet(3, 0, 0) + x.write(3, 0, 0), -3);
    }

    private void worlds() {
        LeastRue x = heap(1, ends(0, 1), ends(0, 1), ends(0, 1));
        x.sheet(0, 2, 4);
        x.write(0, 0, 5);
        x.write(0, 1, 6);
        x.write(0, 2, 7);
        x.write(0, 3, -1);
        due(9, "world 7", x.world(7, 0, 0), 1);
        due(9, "its first cost", x.of(0, 17), 5);
        due(9, "its last cost", x.of(2, 17), 7);
        due(9, "no world 8", x.world(8, 0, 0), -1);
        due(9, "no world -1", x.world(-1, 0, 0), -1);
        due(9, "no sheet 4", x.world(0, 4, 0), -1);
        due(9, "no sheet -1", x.world(0, -1, 0), -1);
        due(9, "a place below 0", x.world(0, 0, -1), -1);
        due(9, "a number below 0", x.world(7, 0, 1), -1);
        due(9, "the old costs stay", x.of(0, 17), 5);
        due(9, "no other world came", x.count(2), 1);
        x.write(0, 3, 1000);
        due(9, "1000 is fine", x.world(7, 0, 2), 1);
        due(9, "from a place on", x.of(0, 17) * 10000 + x.of(1, 17), 71000);
        due(9, "what is not there is 0", x.of(2, 17), 0);
        x.write(0, 3, 1001);
        due(9, "1001 is not", x.world(7, 0, 1), -1);
        due(9, "it is not read behind the last thing", x.world(6, 0, 0), 2);
        due(9, "behind the end", x.world(5, 0, MAX), 3);
        due(9, "all 0", x.of(0, 15) + x.of(1, 15) + x.of(2, 15), 0);
        due(9, "of a missing sheet", x.world(6, 1, 0), 3);
        due(9, "all 0, too", x.of(0, 16) + x.of(1, 16) + x.of(2, 16), 0);
        x.write(0, 0, 9);
        due(9, "a world does not follow its sheet", x.of(0, 17), 7);
    }

    private void worldsAndLaterThings() {
        LeastRue x = heap(1, ends(0, 1));
        x.sheet(0, 2, 3);
        x.write(0, 1, 8);
        x.write(0, 2, 2000);
        due(9, "what later things find does not matter", x.world(0, 0, 1), 1);
        x.thing(0, 1);
        due(9, "the first", x.of(0, 10), 8);
        due(9, "a later thing", x.of(1, 10), 0);
        LeastRue none = new LeastRue();
        due(9, "a world without things", none.world(3, 0, 0), 1);
        none.image(0);
        none.thing(1, 1);
        tell(none, 3, 44);
        none.back(0);
        none.thing(1, 1);
        due(9, "a thing that comes later has nothing of one that is gone", none.of(0, 13), 0);
    }

    private void forgetting() {
        LeastRue x = heap(1, ends(0, 1));
        tell(x, 0, 3);
        tell(x, 1, 4);
        due(10, "no world 8", x.forget(8), -1);
        due(10, "no world -1", x.forget(-1), -1);
        due(10, "far out", x.forget(MIN) + x.forget(MAX) + x.forget(32), -3);
        due(10, "not there", x.forget(2), -2);
        due(10, "forget", x.forget(0), 0);
        due(10, "one left", x.count(2), 1);
        due(10, "its cost is gone", x.of(0, 10), -1);
        due(10, "the other's is not", x.of(0, 11), 4);
        due(10, "again", x.forget(0), -2);
        due(10, "costIn", x.costIn(0, 0), -1);
    }

    private void counts() {
        LeastRue x = heap(2, ends(0, 1), ends(0, 1), ends(0, 1));
        x.sheet(1, 0, 1);
        x.world(0, 0, 0);
        x.world(4, 0, 0);
        int[] want = {3, 3, 2, 0, 2, 1, -1};
        for (int what = 0; what < want.length; what++) {
            due(11, "count(" + what + ")", x.count(what), want[what]);
        }
        due(11, "below 0", x.count(-1), -1);
        x.kind(3, 1);
        due(11, "kind", x.count(3), 3);
        due(11, "k", x.count(4), 1);
    }

    private void choicesAndFinding() {
        LeastRue x = heap(2, ends(0, 1), ends(0, 1), ends(0, 1));
        due(12, "choice 0", x.choice(0), 3);
        due(12, "choice 2", x.choice(2), 6);
        due(12, "choice 3", x.choice(3), -1);
        due(12, "choice -1", x.choice(-1), -1);
        due(13, "find(5)", x.find(5), 1);
        due(13, "find(1)", x.find(1), -1);
        due(13, "find(7)", x.find(7), -1);
        due(13, "find(-1)", x.find(-1), -1);
        due(13, "find(0)", x.find(0), -1);
        due(13, "the empty set", new LeastRue().find(0), 0);
        x.kind(0, 3);
        due(13, "an old choice", x.find(5), -1);
    }

    private void ofThings() {
        LeastRue x = heap(1, ends(3, 4));
        x.posts(0, 1, 2);
        x.price(0, 9);
        tell(x, 0, 50);
        tell(x, 7, 57);
        int[] want = {3, 4, 1, 2, 9, -1, -1, -1, -1, -1, 50, -1, -1, -1, -1, -1, -1, 57, -1};
        for (int what = 0; what < want.length; what++) {
            due(14, "of(0, " + what + ")", x.of(0, what), want[what]);
        }
        due(14, "what below 0", x.of(0, -1), -1);
        due(14, "what far below 0", x.of(0, MIN), -1);
        due(14, "no thing 1", x.of(1, 0), -1);
        due(14, "no thing -1", x.of(-1, 0), -1);
    }

    private void costsAndCheapest() {
        LeastRue x = heap(2, ends(1, 10), ends(2, 20), ends(3, 30));
        due(15, "all low", x.cost(0, 0), 3);
        due(15, "one high", x.cost(0, 2), 21);
        due(15, "another's high end does not matter", x.cost(0, 4), 3);
        due(15, "all high", x.cost(2, 7), 50);
        due(15, "no choice 3", x.cost(3, 0), -1);
        due(15, "no choice -1", x.cost(-1, 0), -1);
        due(15, "bits beyond the things", x.cost(0, 8), -1);
        due(15, "bits below 0", x.cost(0, -1), -1);
        due(16, "all low", x.cheapest(0), 0);
        due(16, "thing 0 high", x.cheapest(1), 2);
        due(16, "thing 1 high", x.cheapest(2), 1);
        due(16, "bits beyond the things", x.cheapest(8), -1);
        due(16, "bits below 0", x.cheapest(MIN), -1);
        x.ends(2, 2, 30);
        due(16, "the first of equals", x.cheapest(0), 0);
        x.kind(0, 4);
        due(16, "no choices", x.cheapest(0), -6);
        due(16, "wrong bits come first", x.cheapest(8), -1);
        due(15, "no choice 0", x.cost(0, 0), -1);
    }

    private void ruesAndRivals() {
        LeastRue x = heap(2, ends(1, 10), ends(2, 20), ends(3, 30), ends(7, 8));
        due(17, "things 0 and 1: 30 against 10", x.rue(0), 20);
        due(18, "things 2 and 3", x.rival(0), 5);
        due(17, "things 2 and 3: 38 against 3", x.rue(5), 35);
        due(18, "things 0 and 1", x.rival(5), 0);
        due(17, "no choice 6", x.rue(6), -1);
        due(17, "no choice -1", x.rue(-1), -1);
        due(18, "no choice 6", x.rival(6), -1);
        due(18, "no choice -1", x.rival(-1), -1);
        LeastRue same = heap(1, ends(5, 5), ends(5, 5));
        due(17, "no rue", same.rue(1), 0);
        due(18, "the first of equals", same.rival(1), 0);
        due(18, "a choice may be its own rival", same.rival(0), 0);
        LeastRue shared = roads(new int[] {0, 1}, new int[] {1, 2}, new int[] {1, 2});
        shared.ends(0, 0, 1000);
        shared.ends(1, 0, 4);
        shared.ends(2, 2, 3);
        shared.kind(1, 2);
        due(17, "what both ways have is not rued", shared.rue(0), 2);
        due(17, "nor by the other", shared.rue(1), 3);
    }

    private void bestAndMany() {
        LeastRue x = heap(1, ends(0, 100), ends(40, 50), ends(45, 45));
        due(19, "best", x.best(), 2);
        due(20, "many", x.many(), 1);
        LeastRue even = heap(1, ends(0, 10), ends(0, 10), ends(0, 10));
        due(19, "the first of equals", even.best(), 0);
        due(20, "all", even.many(), 3);
        even.ends(0, 0, 11);
        due(19, "the first of the others", even.best(), 1);
        due(20, "two", even.many(), 2);
        even.thing(0, 10);
        due(20, "three", even.many(), 3);
        even.image(0);
        even.ends(3, 0, 0);
        due(20, "one", even.many(), 1);
        even.back(0);
        due(20, "three again", even.many(), 3);
    }

    private void middles() {
        LeastRue x = heap(1, ends(4, 5), ends(4, 4), ends(3, 5));
        due(21, "4.5, 4, 4", x.middle(), 1);
        x.ends(1, 3, 6);
        due(21, "4.5, 4.5, 4", x.middle(), 2);
        x.ends(2, 4, 5);
        due(21, "all 4.5", x.middle(), 0);
        LeastRue halves = heap(2, ends(0, 1), ends(0, 1), ends(0, 0), ends(1, 1));
        due(21, "halves count", halves.middle(), 1);
    }

    private void holds() {
        LeastRue x = heap(1, ends(1, 2), ends(3, 4), ends(5, 6));
        due(22, "always", x.hold(0), 3);
        due(22, "lost", x.hold(1), 0);
        x.ends(1, 2, 4);
        due(22, "sure: a tie may come", x.hold(0), 2);
        due(22, "may: by a tie", x.hold(1), 1);
        x.ends(1, 1, 4);
        due(22, "may", x.hold(0), 1);
        due(22, "may, too", x.hold(1), 1);
        due(22, "still lost", x.hold(2), 0);
        due(22, "no thing 3", x.hold(3), -1);
        due(22, "no thing -1", x.hold(-1), -1);
        x.kind(0, 3);
        due(22, "in the only choice", x.hold(2), 3);
        x.kind(0, 0);
        due(22, "not in the only choice", x.hold(0), 0);
        x.kind(0, 4);
        due(22, "without choices", x.hold(0), 0);
        LeastRue even = heap(1, ends(2, 2), ends(2, 2));
        due(22, "equals are both sure", even.hold(0) * 10 + even.hold(1), 22);
        LeastRue ways = roads(new int[] {0, 1}, new int[] {1, 2}, new int[] {1, 2}, new int[] {0, 0});
        ways.kind(1, 2);
        ways.ends(0, 0, 1000);
        ways.ends(1, 0, 9);
        ways.ends(2, 0, 9);
        due(22, "a road of all ways", ways.hold(0), 3);
        due(22, "a road of some", ways.hold(1), 1);
        due(22, "a road of none", ways.hold(3), 0);
        LeastRue pairs = heap(2, ends(0, 3), ends(0, 9), ends(4, 9));
        due(22, "always, though another may be cheaper", pairs.hold(0), 3);
        pairs.ends(2, 3, 9);
        due(22, "sure against each pair without it", pairs.hold(0), 2);
    }

    private void fewCosts() {
        LeastRue x = heap(3, ends(1, 2), ends(1, 5), ends(1, 9), ends(4, 4));
        int[] want = {3, 11, 15, 16, 16};
        for (int k = 0; k < want.length; k++) {
            due(23, "dearest(0, " + k + ")", x.dearest(0, k), want[k]);
        }
        due(23, "k 12", x.dearest(0, 12), 16);
        due(23, "k 13", x.dearest(0, 13), -1);
        due(23, "k -1", x.dearest(0, -1), -1);
        due(23, "no choice 4", x.dearest(4, 0), -1);
        due(23, "no choice -1", x.dearest(-1, 0), -1);
        due(24, "none high", x.few(0), 0);
        due(24, "one high", x.few(1), 1);
        due(24, "all high", x.few(12), 1);
        due(24, "k 13", x.few(13), -1);
        due(24, "k -1", x.few(-1), -1);
        LeastRue even = heap(1, ends(3, 3), ends(2, 3), ends(2, 3));
        due(24, "the first of equals", even.few(1), 0);
        due(24, "the first of the lowest", even.few(0), 1);
        even.kind(0, 5);
        due(24, "no choices", even.few(0), -6);
        due(24, "a wrong k comes first", even.few(13), -1);
    }

    private void singleWorlds() {
        LeastRue x = heap(2, ends(0, 1), ends(0, 1), ends(0, 1));
        tell(x, 2, 5, 3, 3);
        due(25, "things 0 and 1", x.costIn(2, 0), 8);
        due(25, "things 1 and 2", x.costIn(2, 2), 6);
        due(25, "no choice 3", x.costIn(2, 3), -1);
        due(25, "no choice -1", x.costIn(2, -1), -1);
        due(25, "no such world", x.costIn(1, 0), -1);
        due(25, "world -1", x.costIn(-1, 0), -1);
        due(25, "world 8", x.costIn(8, 0), -1);
        due(25, "world 34", x.costIn(34, 0), -1);
        due(26, "cheapest", x.cheapestIn(2), 2);
        due(26, "no such world", x.cheapestIn(3), -2);
        due(26, "world -1", x.cheapestIn(-1), -1);
        due(26, "world 8", x.cheapestIn(8), -1);
        tell(x, 2, 3, 3, 3);
        due(26, "the first of equals", x.cheapestIn(2), 0);
        x.kind(0, 4);
        due(26, "no choices", x.cheapestIn(2), -6);
        due(26, "no world comes first", x.cheapestIn(3), -2);
    }

    private void allWorlds() {
        LeastRue x = heap(1, ends(0, 1), ends(0, 1), ends(0, 1));
        due(27, "no worlds", x.rueOf(0), -1);
        due(28, "no worlds", x.bestOf(), -2);
        tell(x, 0, 0, 5, 9);
        due(27, "one world", x.rueOf(2), 9);
        due(28, "one world", x.bestOf(), 0);
        tell(x, 7, 20, 5, 0);
        due(27, "two worlds: thing 0", x.rueOf(0), 20);
        due(27, "two worlds: thing 1", x.rueOf(1), 5);
        due(27, "two worlds: thing 2", x.rueOf(2), 9);
        due(28, "two worlds", x.bestOf(), 1);
        due(27, "no choice 3", x.rueOf(3), -1);
        due(27, "no choice -1", x.rueOf(-1), -1);
        tell(x, 3, 0, 9, 0);
        due(28, "the first of equals", x.bestOf(), 1);
        x.forget(7);
        due(28, "a forgotten world does not count", x.bestOf(), 0);
        x.kind(0, 4);
        due(28, "no choices", x.bestOf(), -6);
        due(27, "no choice", x.rueOf(0), -1);
    }

    private void fronts() {
        LeastRue x = heap(1, ends(0, 1), ends(0, 1), ends(0, 1), ends(0, 1), ends(0, 1), ends(0, 1));
        tell(x, 0, 9, 1, 4, 4, 4, 1);
        tell(x, 1, 0, 8, 5, 5, 6, 8);
        due(29, "pairs", x.front(0, 1, -1), 3);
        due(29, "the first pair's first choice", x.front(0, 1, 0), 1);
        due(29, "the second", x.front(0, 1, 1), 2);
        due(29, "the third", x.front(0, 1, 2), 0);
        due(29, "no fourth", x.front(0, 1, 3), -1);
        due(29, "far out", x.front(0, 1, MAX), -1);
        due(29, "below -1", x.front(0, 1, -2), -1);
        due(29, "the other way round", x.front(1, 0, 0), 0);
        due(29, "the other way round, last", x.front(1, 0, 2), 1);
        due(29, "the same world", x.front(0, 0, -1), 1);
        due(29, "its cheapest", x.front(0, 0, 0), 1);
        due(29, "no world 2", x.front(0, 2, -1), -1);
        due(29, "no world 2, first", x.front(2, 0, -1), -1);
        due(29, "world 8", x.front(8, 0, -1), -1);
        due(29, "world -1", x.front(0, -1, -1), -1);
        x.kind(0, 7);
        due(29, "no pairs without choices", x.front(0, 1, -1), 0);
        due(29, "no pair without choices", x.front(0, 1, 0), -1);
    }

    private void lotsDrawn() {
        LeastRue x = heap(1, ends(0, 1), ends(0, 1), ends(0, 1));
        tell(x, 0, 0, 10, 7);
        tell(x, 1, 10, 0, 7);
        due(30, "half and half", x.lots(0, 1, 0), 5);
        due(30, "over one", x.lots(0, 1, 1), 1);
        tell(x, 0, 0, 10, 3);
        tell(x, 1, 10, 0, 4);
        due(30, "the third and the second: 40", x.lots(0, 1, 0), 40);
        due(30, "over 11", x.lots(0, 1, 1), 11);
        due(30, "the other way round", x.lots(1, 0, 0), 40);
        tell(x, 1, 10, 0, 3);
        due(30, "the third alone", x.lots(0, 1, 0), 3);
        due(30, "over one, too", x.lots(0, 1, 1), 1);
        due(30, "the same world", x.lots(1, 1, 0), 0);
        due(30, "0 over one", x.lots(1, 1, 1), 1);
        due(30, "what 2", x.lots(0, 1, 2), -1);
        due(30, "what -1", x.lots(0, 1, -1), -1);
        due(30, "world 8", x.lots(8, 1, 0), -1);
        due(30, "world -1", x.lots(0, -1, 0), -1);
        due(30, "no such world", x.lots(0, 2, 0), -2);
        due(30, "a wrong what comes first", x.lots(0, 2, 2), -1);
        tell(x, 0, 1, 11, 4);
        due(30, "rues, not costs", x.lots(0, 1, 0), 3);
        tell(x, 0, 0, 1000, 499);
        tell(x, 1, 999, 0, 1000);
        due(30, "great numbers", x.lots(0, 1, 0), 999000);
        due(30, "great lower number", x.lots(0, 1, 1), 1999);
        x.kind(0, 4);
        due(30, "no choices", x.lots(0, 1, 0), -6);
        due(30, "no world comes first", x.lots(0, 2, 0), -2);
    }

    private void twoSteps() {
        LeastRue x = heap(1, ends(0, 1), ends(0, 1), ends(0, 1));
        due(31, "no worlds", x.two(0), -2);
        due(31, "wrong bits come first", x.two(8), -1);
        due(32, "no worlds", x.first(), -2);
        x.price(0, 6);
        x.price(1, 7);
        x.price(2, 1);
        tell(x, 0, 9, 20, 30);
        tell(x, 4, 20, 8, 30);
        due(31, "nothing now", x.two(0), 9);
        due(31, "thing 0 now", x.two(1), 6);
        due(31, "thing 1 now", x.two(2), 7);
        due(31, "thing 2 now", x.two(4), 1);
        due(31, "what is bought in vain is paid", x.two(7), 14);
        due(31, "bits below 0", x.two(-1), -1);
        due(31, "bits beyond the things", x.two(8), -1);
        due(32, "thing 2", x.first(), 4);
        x.price(2, 9);
        due(32, "thing 0", x.first(), 1);
        x.price(0, 10);
        x.price(1, 9);
        due(32, "nothing: the lowest bits of equals", x.first(), 0);
        x.kind(0, 2);
        due(31, "what is needed besides", x.two(1), 30);
        due(31, "two of three", x.two(3), 19);
        due(31, "one now, one later", x.two(4), 18);
        due(31, "both now", x.two(6), 18);
        due(32, "the lower bits of these", x.first(), 4);
        x.kind(0, 4);
        due(31, "no choices", x.two(0), -6);
        due(32, "no choices", x.first(), -6);
        due(31, "wrong bits come before no choices", x.two(8), -1);
        x.forget(0);
        x.forget(4);
        due(31, "no worlds come before no choices", x.two(0), -2);
        due(32, "no worlds come before no choices, too", x.first(), -2);
    }

    private void imagesAndBack() {
        LeastRue x = heap(1, ends(3, 4), ends(5, 6));
        x.posts(1, 2, 3);
        x.price(1, 8);
        tell(x, 2, 21, 22);
        due(34, "not kept", x.back(0), -2);
        due(33, "image", x.image(0), 0);
        due(33, "image 3", x.image(3), -1);
        due(33, "image -1", x.image(-1), -1);
        due(34, "back 3", x.back(3), -1);
        due(34, "back -1", x.back(-1), -1);
        due(34, "another is not kept", x.back(2), -2);
        x.thing(7, 8);
        x.ends(1, 0, 0);
        x.posts(1, 4, 4);
        x.price(1, 1);
        tell(x, 2, 1, 1, 1);
        tell(x, 5, 1, 1, 1);
        x.kind(0, 2);
        x.image(1);
        x.sheet(0, 0, 5);
        due(34, "back", x.back(0), 0);
        due(34, "things", x.count(0), 2);
        due(34, "choices", x.count(1), 2);
        due(34, "worlds", x.count(2), 1);
        due(34, "k", x.count(4), 1);
        due(34, "sheets stay", x.count(5), 2);
        int[] what = {0, 1, 2, 3, 4, 12, 15};
        int[] want = {5, 6, 2, 3, 8, 22, -1};
        for (int i = 0; i < what.length; i++) {
            due(34, "of(1, " + what[i] + ")", x.of(1, what[i]), want[i]);
        }
        due(34, "rue", x.rue(1), 3);
        x.ends(0, 9, 9);
        due(34, "an image does not change with the bench", x.back(0) + x.of(0, 0), 3);
        due(34, "the other image", x.back(1), 0);
        due(34, "its things", x.count(0), 3);
        due(34, "its worlds", x.count(2), 2);
        due(34, "its ends", x.of(1, 1), 0);
        x.image(0);
        x.kind(1, 1);
        x.back(0);
        due(33, "an image is kept over an older one", x.count(4), 2);
    }

    private void statusOfCalls() {
        LeastRue x = new LeastRue();
        due(35, "ahead of any", x.status(), 0);
        x.cheapest(-1);
        due(35, "a question does not count", x.status(), 0);
        refusedBy(x, x.thing(1, 0), -1);
        refusedBy(x, x.ends(0, 0, 0), -2);
        refusedBy(x, x.posts(0, 9, 9), -1);
        refusedBy(x, x.price(0, 0), -2);
        refusedBy(x, x.kind(9, 0), -1);
        refusedBy(x, x.sheet(0, 0, -1), -4);
        refusedBy(x, x.write(0, 0, 0), -2);
        refusedBy(x, x.world(9, 0, 0), -1);
        refusedBy(x, x.forget(0), -2);
        refusedBy(x, x.image(9), -1);
        refusedBy(x, x.back(0), -2);
        x.sheet(0, 0, 1);
        refusedBy(x, x.write(0, 1, 0), -3);
        x.few(-1);
        x.two(0);
        due(35, "questions leave it", x.status(), -3);
        int[] fine = {x.thing(3, 3), x.ends(0, 0, 0), x.posts(0, 1, 1), x.price(0, 5), x.kind(0, 1), x.sheet(0, 0, 2),
            x.write(0, 0, 1), x.world(1, 0, 0), x.forget(1), x.image(0), x.back(0)};
        due(35, "calls that were not refused", fine.length, 11);
        due(35, "status after them", x.status(), 0);
        for (int call = 0; call < 11; call++) {
            x.kind(-1, 0);
            due(35, "refused again", x.status(), -1);
            againFine(x, call);
            due(35, "status after call " + call, x.status(), 0);
        }
        for (int t = 1; t < 12; t++) {
            x.thing(0, 0);
        }
        refusedBy(x, x.thing(0, 0), -5);
        refusedBy(x, x.kind(0, 6), -5);
    }

    private void refusedBy(LeastRue x, int answer, int why) {
        due(35, "answer", answer, why);
        due(35, "status", x.status(), why);
    }

    private static int againFine(LeastRue x, int call) {
        switch (call) {
            case 0:
                return x.thing(3, 3) + x.back(0);
            case 1:
                return x.ends(0, 1, 1);
            case 2:
                return x.posts(0, 1, 1);
            case 3:
                return x.price(0, 5);
            case 4:
                return x.kind(0, 1);
            case 5:
                return x.sheet(0, 0, 2);
            case 6:
                return x.write(0, 0, 1);
            case 7:
                return x.world(1, 0, 0);
            case 8:
                return x.forget(1);
            case 9:
                return x.image(0);
            default:
                return x.back(0);
        }
    }

    private void withoutChoices() {
        LeastRue x = heap(3, ends(0, 1));
        due(19, "best", x.best(), -6);
        due(20, "many", x.many(), 0);
        due(21, "middle", x.middle(), -6);
        due(17, "rue", x.rue(0), -1);
        due(18, "rival", x.rival(0), -1);
        due(12, "choice", x.choice(0), -1);
        due(13, "find", x.find(1), -1);
        due(23, "dearest", x.dearest(0, 0), -1);
    }
}
