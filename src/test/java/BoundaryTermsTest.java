/** Each sentence of the document's head and of its Terms that names a boundary case. */
public final class BoundaryTermsTest extends Sentences {
    private BoundaryTermsTest() {
        super("BoundaryTermsTest");
    }

    public static void main(String[] args) {
        BoundaryTermsTest test = new BoundaryTermsTest();
        test.callsOfAnObject();
        test.thingsAndEnds();
        test.costsInWorlds();
        test.postsOfThings();
        test.sheetsAndSorts();
        test.kindAtFirst();
        test.some();
        test.ways();
        test.waysWithNoPostTwice();
        test.trees();
        test.treesWithoutOtherPosts();
        test.pairs();
        test.numbersOfChoices();
        test.atMostFiveHundred();
        test.firstOfRefusals();
        test.ruesInWorlds();
        test.greatestRues();
        test.bestAndMiddles();
        test.sureAndAlways();
        test.mayAndLost();
        test.few();
        test.ofWorlds();
        test.fronts();
        test.lots();
        test.twoSteps();
        test.none();
        test.end();
    }

    private void callsOfAnObject() {
        sentence("An object is used for at most 512 calls after it has been made");
        LeastRue x = new LeastRue();
        x.thing(0, 10);
        x.thing(4, 6);
        x.kind(0, 1);
        int fine = 0;
        for (int call = 3; call < 511; call++) {
            fine += x.ends(0, 0, 5 + call % 6) == 0 ? 1 : 0;
        }
        due("calls that went well", fine, 508);
        due("call 512: thing 0 costs 5 at most, thing 1 at least 4", x.rue(0), 1);
        LeastRue y = new LeastRue();
        fine = 0;
        for (int call = 0; call < 511; call++) {
            fine += y.sheet(call % 4, call % 3, 100) == 100 ? 1 : 0;
        }
        due("sheets made again and again", fine, 511);
        due("call 512: sheets there", y.count(5), 4);
        LeastRue z = new LeastRue();
        fine = 0;
        for (int call = 0; call < 511; call++) {
            fine += (call % 2 == 0 ? z.image(call % 3) : z.back((call + 2) % 3)) == 0 ? 1 : 0;
        }
        due("images kept and taken back again and again", fine, 511);
        due("call 512: status", z.status(), 0);
    }

    private void thingsAndEnds() {
        sentence("THINGS 0 .. 11, as they are told");
        LeastRue x = new LeastRue();
        for (int t = 0; t < 12; t++) {
            due("the number of thing " + t, x.thing(t, 2 * t), t);
        }
        due("a thirteenth", x.thing(0, 0), -5);
        for (int t = 0; t < 12; t++) {
            due("low end of thing " + t, x.of(t, 0), t);
            due("high end of thing " + t, x.of(t, 1), 2 * t);
        }
        due("no thing 12", x.of(12, 0), -1);
        due("no thing -1", x.of(-1, 0), -1);

        sentence("ENDS low and high (0 .. 1000, low not above high");
        int[][] fine = {{0, 0}, {0, 1}, {0, 1000}, {999, 1000}, {1000, 1000}};
        LeastRue y = alike(1, 1, 7, 8);
        for (int[] e : fine) {
            due("ends " + e[0] + ", " + e[1], y.ends(0, e[0], e[1]), 0);
            due("low", y.of(0, 0), e[0]);
            due("high", y.of(0, 1), e[1]);
            due("thing " + e[0] + ", " + e[1], new LeastRue().thing(e[0], e[1]), 0);
        }
        y.ends(0, 7, 8);
        int[][] wrong = {{-1, 0}, {-1, -1}, {-1, 1000}, {0, 1001}, {1000, 1001}, {1001, 1001}, {1, 0}, {1000, 999},
            {1000, 0}, {0, -1}, {MIN, MAX}, {MIN, 0}, {0, MAX}, {MAX, MAX}, {MIN, MIN}, {0, MIN}, {MAX, 0}};
        for (int[] e : wrong) {
            due("wrong ends " + e[0] + ", " + e[1], y.ends(0, e[0], e[1]), -1);
            due("a thing with wrong ends " + e[0] + ", " + e[1], y.thing(e[0], e[1]), -1);
        }
        due("low as it was", y.of(0, 0), 7);
        due("high as it was", y.of(0, 1), 8);
        due("things as they were", y.count(0), 1);
    }

    private void costsInWorlds() {
        sentence("a cost in each of the WORLDS 0 .. 7");
        LeastRue x = alike(1, 1, 0, 0);
        for (int w = 0; w < 8; w++) {
            due("world " + w, tell(x, w, 20 + w), w + 1);
        }
        for (int w = 0; w < 8; w++) {
            due("the cost in world " + w, x.of(0, 10 + w), 20 + w);
            due("the same by costIn", x.costIn(w, 0), 20 + w);
        }
        due("no world -1", x.world(-1, 3, 0), -1);
        due("no world 8", x.world(8, 3, 0), -1);
        due("worlds there", x.count(2), 8);

        sentence("(0 .. 1000; 0 at first");
        due("a cost 0", tell(x, 0, 0) + x.of(0, 10), 8);
        due("a cost 1000", tell(x, 0, 1000) + x.of(0, 10), 1008);
        due("a cost -1", tell(x, 0, -1), -1);
        due("a cost 1001", tell(x, 0, 1001), -1);
        due("the cost as it was", x.of(0, 10), 1000);
        x.thing(0, 0);
        due("the cost of a thing that was not there", x.of(1, 10), 0);

        sentence("a WORLD is there when it was told");
        LeastRue y = alike(1, 1, 0, 0);
        due("ahead of that", y.of(0, 13), -1);
        due("ahead of that, how many", y.count(2), 0);
        due("ahead of that, its cheapest", y.cheapestIn(3), -2);
        tell(y, 3, 0);
        due("after that", y.of(0, 13), 0);
        due("after that, how many", y.count(2), 1);
        due("after that, its cheapest", y.cheapestIn(3), 0);
        due("another", y.of(0, 12), -1);
    }

    private void postsOfThings() {
        sentence("Of each THING two POSTS (0 .. 5), one and other (0, 0 at first)");
        LeastRue x = alike(2, 1, 0, 0);
        due("one at first", x.of(1, 2), 0);
        due("other at first", x.of(1, 3), 0);
        for (int post = 0; post < 6; post++) {
            due("posts " + post, x.posts(1, post, 5 - post), 0);
            due("one " + post, x.of(1, 2), post);
            due("other " + (5 - post), x.of(1, 3), 5 - post);
        }
        int[] wrong = {-1, 6, MIN, MAX, 32};
        for (int post : wrong) {
            due("one " + post, x.posts(1, post, 0), -1);
            due("other " + post, x.posts(1, 0, post), -1);
        }
        due("one as it was", x.of(1, 2), 5);
        due("other as it was", x.of(1, 3), 0);
        due("thing 0 keeps its own", x.of(0, 2) + x.of(0, 3), 0);
    }

    private void sheetsAndSorts() {
        sentence("SHEETS 0 .. 3, missing at first");
        LeastRue x = alike(1, 1, 0, 0);
        for (int s = 0; s < 4; s++) {
            due("sheet " + s + " is missing", x.write(s, 0, 1), -2);
        }
        due("none is there", x.count(5), 0);
        for (int s = 0; s < 4; s++) {
            due("sheet " + s, x.sheet(s, 2, 1), 1);
            due("there are", x.count(5), s + 1);
        }
        due("no sheet -1", x.sheet(-1, 2, 1), -1);
        due("no sheet 4", x.sheet(4, 2, 1), -1);

        sentence("are rows of bytes (sort 0), shorts (1), ints (2)");
        int[][] bytes = {{0, 0}, {127, 127}, {128, -1}, {255, -1}, {256, 0}, {383, 127}, {384, -1}, {-1, -1},
            {-128, -1}, {-129, 127}, {-256, 0}, {MIN, 0}, {MAX, -1}, {65536 + 9, 9}};
        int[][] shorts = {{0, 0}, {128, 128}, {1000, 1000}, {1001, -1}, {32767, -1}, {32768, -1}, {65535, -1},
            {65536, 0}, {66536, 1000}, {66537, -1}, {-65536, 0}, {-65535, 1}, {-32768, -1}, {MIN, 0}, {MAX, -1}};
        int[][] ints = {{0, 0}, {1000, 1000}, {1001, -1}, {256, 256}, {65536, -1}, {66536, -1}, {-1, -1},
            {-65536, -1}, {MIN, -1}, {MAX, -1}, {1 << 24, -1}};
        int[][][] sorts = {bytes, shorts, ints};
        for (int sort = 0; sort < 3; sort++) {
            x.sheet(0, sort, 1);
            for (int[] pair : sorts[sort]) {
                due(pair[0] + " in sort " + sort, readBack(x, 0, pair[0]), pair[1]);
            }
        }
        due("no sort 3", x.sheet(0, 3, 1), -1);
        due("no sort -1", x.sheet(0, -1, 1), -1);
    }

    private void kindAtFirst() {
        sentence("KINDS of CHOICES (sets of THINGS; 0 at first, with 0 things)");
        LeastRue x = new LeastRue();
        due("kind", x.count(3), 0);
        due("k", x.count(4), 0);
        due("one choice", x.count(1), 1);
        due("the empty one", x.choice(0), 0);
        x.thing(3, 4);
        due("one choice with a thing there", x.count(1), 1);
        due("still the empty one", x.choice(0), 0);
        due("which costs nothing", x.cost(0, 1), 0);
        due("and has no rue", x.rue(0), 0);
    }

    private void some() {
        sentence("0 SOME: all sets of k THINGS");
        LeastRue x = alike(3, 0, 1, 2);
        due("of none", x.count(1), 1);
        due("the empty set", x.choice(0), 0);
        due("of one", x.kind(0, 1), 3);
        due("of two", x.kind(0, 2), 3);
        due("of all", x.kind(0, 3), 1);
        due("the whole set", x.choice(0), 7);
        due("of one more than there are", x.kind(0, 4), 0);
        due("no choice", x.choice(0), -1);
        due("of twelve", x.kind(0, 12), 0);
        due("one of no things", new LeastRue().kind(0, 1), 0);
        x.kind(0, 4);
        x.thing(0, 0);
        due("when the fourth comes", x.count(1), 1);
        due("all four", x.choice(0), 15);
    }

    private void ways() {
        sentence("1 WAYS: all sets that are a way from POST 0 to POST k (1 .. 5)");
        LeastRue x = roads(road(0, 1), road(1, 2), road(2, 3), road(3, 4), road(4, 5), road(5, 0));
        due("to 0", x.kind(1, 0), -1);
        due("to 6", x.kind(1, 6), -1);
        due("to -1", x.kind(1, -1), -1);
        for (int k = 1; k <= 5; k++) {
            due("both ways round to " + k, x.kind(1, k), 2);
            due("the one", x.find((1 << k) - 1) >= 0 ? 1 : 0, 1);
            due("the other", x.find(63 & ~((1 << k) - 1)) >= 0 ? 1 : 0, 1);
        }
        LeastRue none = roads(road(1, 2), road(2, 5));
        due("none that begins at 0", none.kind(1, 5), 0);
        due("without roads", new LeastRue().kind(1, 1), 0);
        LeastRue apart = roads(road(0, 1), road(2, 3));
        due("a road that is not joined", apart.kind(1, 3), 0);
        due("is no part of a way", apart.kind(1, 1), 1);

        sentence("along THINGS as roads between their POSTS (either way)");
        LeastRue back = roads(road(1, 0), road(2, 1), road(0, 2));
        due("against the roads", back.kind(1, 2), 2);
        due("over 1", back.choice(0), 3);
        due("straight", back.choice(1), 4);
        LeastRue twice = roads(road(0, 1), road(0, 1), road(1, 0));
        due("roads side by side are ways of their own", twice.kind(1, 1), 3);
    }

    private void waysWithNoPostTwice() {
        sentence("no POST twice");
        LeastRue x = roads(road(0, 1), road(1, 2), road(2, 1), road(2, 2), road(0, 0), road(2, 3), road(3, 0));
        due("ways to 2", x.kind(1, 2), 3);
        due("over 1", x.choice(0), 0b0000011);
        due("over 1 by the other road", x.choice(1), 0b0000101);
        due("over 3", x.choice(2), 0b1100000);
        due("ways to 1", x.kind(1, 1), 3);
        due("straight, not on to 2 and back", x.choice(0), 0b0000001);
        due("the long way", x.choice(1), 0b1100010);
        due("the long way by the other road", x.choice(2), 0b1100100);
        due("a ring from a road to itself", x.find(0b0010001), -1);
        due("there, back and there", roads(road(0, 1), road(0, 1), road(0, 1)).kind(1, 1), 3);
        LeastRue six = roads(road(0, 1), road(1, 2), road(2, 3), road(3, 4), road(4, 2), road(4, 5));
        due("to 5 round a ring: only one road of both is used", six.kind(1, 5), 2);
        due("the short one", six.choice(1), 0b110011);
        due("the longest has five roads", six.choice(0), 0b101111);
    }

    private void trees() {
        sentence("2 TREES: all sets of k - 1 roads (k 1 .. 6) that hold POSTS 0 .. k - 1 together");
        LeastRue x = roads(road(0, 1), road(1, 2), road(2, 3), road(3, 4), road(4, 5), road(5, 0));
        due("k 0", x.kind(2, 0), -1);
        due("k 7", x.kind(2, 7), -1);
        due("k -1", x.kind(2, -1), -1);
        due("k 1: no road is needed", x.kind(2, 1), 1);
        due("the empty set", x.choice(0), 0);
        due("k 2", x.kind(2, 2), 1);
        due("the road between both", x.choice(0), 1);
        due("k 5", x.kind(2, 5), 1);
        due("four roads", x.choice(0), 15);
        due("k 6: a ring without one of its six", x.kind(2, 6), 6);
        due("the first", x.choice(0), 0b011111);
        due("the last", x.choice(5), 0b111110);
        due("k 1 without things", new LeastRue().kind(2, 1), 1);
        due("k 2 without things", new LeastRue().kind(2, 2), 0);
        LeastRue ring = roads(road(0, 1), road(1, 2), road(2, 0), road(2, 3));
        due("three roads round a ring don't hold four posts", ring.kind(2, 4), 3);
        due("the ring", ring.find(7), -1);
        LeastRue loop = roads(road(0, 1), road(1, 1), road(0, 0));
        due("a road from a post to itself holds nothing", loop.kind(2, 2), 1);
        due("nor is it in the tree of one post", loop.kind(2, 1) + loop.choice(0), 1);
        LeastRue late = roads(road(4, 5), road(3, 4), road(2, 3), road(1, 2), road(0, 1));
        due("roads told from the far end on", late.kind(2, 6), 1);
    }

    private void treesWithoutOtherPosts() {
        sentence("roads with other POSTS not used");
        LeastRue x = roads(road(0, 1), road(1, 2), road(2, 0), road(2, 3), road(3, 1));
        due("three posts", x.kind(2, 3), 3);
        due("the last of roads 0 to 2", x.choice(2), 6);
        LeastRue over = roads(road(0, 1), road(1, 3), road(3, 2));
        due("2 is held only over 3", over.kind(2, 3), 0);
        due("1 is held only over 3", roads(road(0, 3), road(3, 1)).kind(2, 2), 0);
        due("a road between other posts", roads(road(0, 1), road(4, 5)).kind(2, 2), 1);
    }

    private void pairs() {
        sentence("3 PAIRS: all sets of k THINGS (k 0 .. 6) that have each of POSTS 0 .. k - 1 once as one and once as other");
        LeastRue x = roads(road(0, 0), road(1, 1), road(2, 2), road(3, 3), road(4, 4), road(5, 5));
        due("k -1", x.kind(3, -1), -1);
        due("k 7", x.kind(3, 7), -1);
        for (int k = 0; k <= 6; k++) {
            due("k " + k, x.kind(3, k), 1);
            due("the first " + k, x.choice(0), (1 << k) - 1);
        }
        x.posts(5, 5, 4);
        due("5 is no other", x.kind(3, 6), 0);
        due("4 is twice an other, but one of both suffices", x.kind(3, 5), 1);
        x.posts(5, 4, 5);
        due("5 is no one", x.kind(3, 6), 0);
        due("k 0 without things", new LeastRue().kind(3, 0), 1);
        due("k 1 without things", new LeastRue().kind(3, 1), 0);
        LeastRue y = roads(road(0, 0), road(0, 1), road(1, 0), road(1, 2), road(2, 1));
        due("once as one, twice as other", y.kind(3, 2), 1);
        due("crosswise", y.choice(0), 0b110);
        due("a pair with post 2 is not for k 2", y.find(0b01001), -1);
        due("three posts", y.kind(3, 3), 1);
        due("0 with itself", y.choice(0), 0b11001);
        LeastRue most = new LeastRue();
        for (int t = 0; t < 12; t++) {
            most.thing(0, 0);
            most.posts(t, t % 6, t % 6);
        }
        due("two for each post", most.kind(3, 6), 64);
    }

    private void numbersOfChoices() {
        sentence("CHOICES are numbered by their bits (THING i has bit 1 << i), the lower first");
        LeastRue x = alike(12, 4, 0, 0);
        due("the first", x.choice(0), 0b1111);
        due("the last", x.choice(494), 0b1111 << 8);
        int upwards = 0;
        for (int c = 0; c + 1 < 200; c++) {
            upwards += x.choice(c) < x.choice(c + 1) ? 1 : 0;
        }
        due("each is below the next", upwards, 199);
        x.kind(0, 1);
        for (int c = 0; c < 12; c++) {
            due("thing " + c + " alone", x.choice(c), 1 << c);
        }
    }

    private void atMostFiveHundred() {
        sentence("there are 500 at most");
        LeastRue x = alike(12, 4, 0, 0);
        due("four of twelve", x.count(1), 495);
        int[] counts = {1, 12, 66, 220, 495, -5, -5, -5, 495, 220, 66, 12, 1};
        for (int k = 0; k <= 12; k++) {
            dueWithStatus(k + " of twelve", x, x.kind(0, k), counts[k]);
        }
        LeastRue y = alike(11, 5, 0, 0);
        due("five of eleven", y.count(1), 462);
        dueWithStatus("five of twelve", y, y.thing(0, 0), -5);
        due("there are still", y.count(1), 462);
        due("six of eleven", y.kind(0, 6), 462);
        dueWithStatus("six of twelve", y, y.thing(0, 0), -5);
        due("seven of eleven", y.kind(0, 7), 330);
        dueWithStatus("seven of twelve", y, y.thing(0, 0), -5);
        due("eight of eleven", y.kind(0, 8), 165);
        dueWithStatus("eight of twelve", y, y.thing(0, 0), 11);
        due("there are then", y.count(1), 495);
        due("the first", y.choice(0), 255);
        due("the last", y.choice(494), 255 << 4);
    }

    private void firstOfRefusals() {
        sentence("The first of these in that order");
        LeastRue full = alike(12, 4, 0, 0);
        due("-1, -5: a wrong thirteenth", full.thing(1, 0), -1);
        due("-1, -5: a wrong kind", full.kind(4, 6), -1);
        LeastRue x = alike(1, 2, 0, 0);
        due("-1, -2: wrong ends of no thing", x.ends(1, 1, 0), -1);
        due("-1, -2: wrong posts of no thing", x.posts(1, 0, 6), -1);
        due("-1, -2: a wrong price of no thing", x.price(1, 1001), -1);
        due("-1, -4: a length below 0 of a wrong sort", x.sheet(0, 3, -1), -1);
        due("-1, -4: a length below 0 of no sheet", x.sheet(4, 0, -1), -1);
        due("-1, -3: no place in no sheet", x.write(4, -1, 0), -1);
        due("-2, -3: no place in a missing sheet", x.write(0, -1, 0), -2);
        due("-1, -6: wrong bits without choices", x.cheapest(2), -1);
        due("-1, -6: a wrong k without choices", x.few(13), -1);
        due("-1, -2, -6: no world can be that", x.cheapestIn(8), -1);
        due("-2, -6: no world, no choices", x.cheapestIn(7), -2);
        due("-2, -6: no worlds, no choices", x.bestOf(), -2);
        due("-1, -2, -6: a wrong what", x.lots(0, 0, 2), -1);
        due("-1, -2, -6: one world can't be, one is not there", x.lots(0, 8, 0), -1);
        due("-2, -6: no world to draw lots in", x.lots(0, 0, 0), -2);
        due("-1, -2, -6: wrong bits now", x.two(2), -1);
        due("-2, -6: nothing to buy in", x.two(0), -2);
        due("-2, -6: nothing to buy first in", x.first(), -2);
        tell(x, 0, 0);
        due("-6: cheapestIn", x.cheapestIn(0), -6);
        due("-6: bestOf", x.bestOf(), -6);
        due("-1, -6: lots", x.lots(0, 0, -1), -1);
        due("-2, -6: lots with a world that is not there", x.lots(0, 1, 0), -2);
        due("-6: lots", x.lots(0, 0, 0), -6);
        due("-1, -6: two", x.two(-1), -1);
        due("-6: two", x.two(0), -6);
        due("-6: first", x.first(), -6);
    }

    private void ruesInWorlds() {
        sentence("its RUE is its cost less the least of all CHOICES there");
        LeastRue x = heap(1, ends(4, 9));
        tell(x, 0, 1000);
        due("alone, by ends", x.rue(0), 0);
        due("alone, by worlds", x.rueOf(0), 0);
        x.thing(0, 3);
        tell(x, 0, 1000, 0);
        due("against the cheapest", x.rueOf(0), 1000);
        due("the cheapest", x.rueOf(1), 0);
    }

    private void greatestRues() {
        sentence("GREATEST RUE: over all costs between the ENDS (any, each THING by itself)");
        LeastRue none = heap(1, ends(5, 5), ends(5, 5), ends(9, 9));
        due("without room between the ends", none.rue(2), 4);
        due("of the cheapest", none.rue(1), 0);
        LeastRue wide = alike(12, 4, 0, 1000);
        due("all between 0 and 1000", wide.rue(494), 4000);
        wide.kind(0, 8);
        due("eight of twelve: four are in both", wide.rue(0), 4000);
        wide.kind(0, 12);
        due("all things: there is no other", wide.rue(0), 0);
        due("though they are dear", wide.cost(0, 4095), 12000);
        LeastRue lone = heap(1, ends(0, 0), ends(1, 1000));
        due("never rued", lone.rue(0), 0);
        due("always rued", lone.rue(1), 1000);

        sentence("WORST world of a CHOICE: its THINGS at their high ends, all others at their low ones");
        LeastRue x = heap(2, ends(0, 9), ends(3, 8), ends(4, 4), ends(5, 6));
        due("things 0 and 1: 17 less 4 and 5", x.rue(0), 8);
        due("things 2 and 3 there", x.rival(0), 5);
        due("things 2 and 3: 10 less 0 and 3", x.rue(5), 7);
        due("things 0 and 1 there", x.rival(5), 0);
        due("things 0 and 2 in common with 1 and 2: 13 less 3 and 4", x.rue(1), 6);
    }

    private void bestAndMiddles() {
        sentence("BEST: the CHOICE whose GREATEST RUE is least (the first)");
        LeastRue x = heap(1, ends(5, 5), ends(3, 7), ends(3, 7));
        due("thing 0 may be rued by 2, others by 4", x.best(), 0);
        x.ends(0, 9, 9);
        due("the first of two", x.best(), 1);
        x.ends(2, 3, 6);
        due("the one by itself", x.best(), 2);
        LeastRue one = alike(1, 1, 0, 1000);
        due("the only one", one.best(), 0);

        sentence("MIDDLES: each THING at the middle of its ENDS; their choice is the one with the least cost there (the first)");
        LeastRue m = heap(1, ends(0, 5), ends(0, 5), ends(2, 2));
        due("2.5, 2.5, 2", m.middle(), 2);
        m.ends(2, 3, 3);
        due("2.5, 2.5, 3: the first", m.middle(), 0);
        m.ends(0, 1, 5);
        due("3, 2.5, 3", m.middle(), 1);
        LeastRue h = heap(2, ends(0, 1), ends(0, 1), ends(0, 0), ends(1, 1));
        due("1, 0.5, 1.5, ..: halves are not lost", h.middle(), 1);
        LeastRue up = heap(1, ends(1, 1), ends(0, 1));
        due("1, 0.5: nor rounded up", up.middle(), 1);
        LeastRue down = heap(1, ends(0, 1), ends(0, 0));
        due("0.5, 0: nor rounded down", down.middle(), 1);
        due("between 0 and 1000 all", alike(12, 4, 0, 1000).middle(), 0);
    }

    private void sureAndAlways() {
        sentence("A THING is SURE, if whatever the costs between the ENDS are some CHOICE with it is as cheap as any");
        LeastRue x = heap(1, ends(1, 4), ends(4, 9));
        due("a tie is as cheap", x.hold(0), 2);
        x.ends(1, 3, 9);
        due("one less is cheaper", x.hold(0), 1);
        LeastRue even = alike(3, 1, 6, 6);
        due("all are, if nothing can differ", even.hold(0) * 100 + even.hold(1) * 10 + even.hold(2), 222);
        LeastRue two = heap(2, ends(0, 3), ends(0, 9), ends(3, 9));
        due("whatever the other costs", two.hold(0), 2);

        sentence("ALWAYS, if whatever they are all that are as cheap as any have it");
        LeastRue y = heap(1, ends(1, 4), ends(5, 9));
        due("one more than its high end", y.hold(0), 3);
        y.ends(1, 4, 9);
        due("a tie is not always", y.hold(0), 2);
        due("in the only choice", alike(2, 2, 0, 1000).hold(1), 3);
        two.ends(2, 4, 9);
        due("in all that may be cheapest", two.hold(0), 3);
    }

    private void mayAndLost() {
        sentence("MAY be, if by some costs one that is as cheap as any has it");
        LeastRue x = heap(1, ends(1, 4), ends(4, 9));
        due("by a tie", x.hold(1), 1);
        x.ends(1, 3, 9);
        due("by less", x.hold(1), 1);

        sentence("LOST, if not");
        x.ends(1, 5, 9);
        due("never as cheap", x.hold(1), 0);
        due("in no choice", new LeastRue().thing(0, 0) + alike(1, 0, 0, 0).hold(0), 0);
        LeastRue roads = roads(road(0, 1), road(2, 3));
        roads.kind(1, 1);
        due("a road of no way", roads.hold(1), 0);

        sentence("(Without CHOICES: LOST.)");
        LeastRue none = alike(2, 3, 0, 0);
        due("thing 0", none.hold(0), 0);
        due("thing 1", none.hold(1), 0);
        due("no thing 2", none.hold(2), -1);
        none.kind(0, 2);
        due("with a choice again", none.hold(1), 3);
        none.kind(1, 5);
        due("and without", none.hold(1), 0);
    }

    private void few() {
        sentence("FEW: at most k THINGS at their high ends, all others at their low ones: the DEAREST cost of a CHOICE over all such");
        LeastRue x = heap(3, ends(10, 11), ends(0, 5), ends(7, 7));
        int[] want = {17, 22, 23, 23, 23};
        for (int k = 0; k < want.length; k++) {
            due("k " + k, x.dearest(0, k), want[k]);
        }
        due("k 12", x.dearest(0, 12), 23);
        LeastRue none = new LeastRue();
        due("of the empty set", none.dearest(0, 0) + none.dearest(0, 12), 0);
        LeastRue wide = alike(12, 12, 0, 1000);
        for (int k = 0; k <= 12; k++) {
            due("all things, k " + k, wide.dearest(0, k), 1000 * k);
        }
        LeastRue widest = heap(1, ends(0, 5), ends(0, 9));
        due("things outside it do not make it dearer", widest.dearest(0, 1), 5);
    }

    private void ofWorlds() {
        sentence("OF WORLDS that are there: the greatest RUE of a CHOICE over them; BEST of them likewise");
        LeastRue x = alike(2, 1, 0, 0);
        tell(x, 0, 0, 9);
        due("one world", x.rueOf(1), 9);
        tell(x, 7, 12, 0);
        due("the greater of two", x.rueOf(0), 12);
        due("the lesser is best", x.bestOf(), 1);
        tell(x, 3, 0, 12);
        due("the first of equals", x.bestOf(), 0);
        x.forget(7);
        due("one that is forgotten is not there", x.rueOf(0), 0);
        x.forget(0);
        x.forget(3);
        due("none is there: rueOf", x.rueOf(0), -1);
        due("none is there: bestOf", x.bestOf(), -2);
    }

    private void fronts() {
        sentence("for which no CHOICE is cheaper in one of both and not dearer in the other");
        LeastRue x = alike(4, 1, 0, 0);
        tell(x, 0, 3, 3, 5, 6);
        tell(x, 1, 6, 7, 4, 4);
        due("equal in one and dearer in the other is not on it", x.front(0, 1, -1), 2);
        due("the first pair", x.front(0, 1, 0), 0);
        due("the second pair", x.front(0, 1, 1), 2);
        tell(x, 1, 6, 7, 7, 7);
        due("the cheapest in both", x.front(0, 1, -1), 1);
        tell(x, 1, 7, 6, 5, 4);
        due("dearer in one, cheaper in the other", x.front(0, 1, -1), 3);

        sentence("by the cost in v, upwards, no pair twice");
        LeastRue y = alike(5, 1, 0, 0);
        tell(y, 0, 9, 1, 5, 5, 1);
        tell(y, 1, 1, 9, 5, 5, 9);
        due("pairs", y.front(0, 1, -1), 3);
        int[] order = {1, 2, 0};
        for (int i = 0; i < 3; i++) {
            due("pair " + i, y.front(0, 1, i), order[i]);
        }
        int[] turned = {0, 2, 1};
        for (int i = 0; i < 3; i++) {
            due("pair " + i + " by the cost in the other", y.front(1, 0, i), turned[i]);
        }
        LeastRue even = alike(12, 4, 0, 0);
        tell(even, 0);
        due("495 choices with the same costs", even.front(0, 0, -1), 1);
        due("the first of them", even.front(0, 0, 0), 0);
    }

    private void lots() {
        sentence("the least that any chances give, as a fraction in lowest terms");
        LeastRue x = alike(2, 1, 0, 0);
        fraction(x, new int[] {0, 5}, new int[] {0, 5}, 0, 1);
        fraction(x, new int[] {0, 0}, new int[] {0, 0}, 0, 1);
        fraction(x, new int[] {0, 4}, new int[] {4, 0}, 2, 1);
        fraction(x, new int[] {0, 3}, new int[] {6, 0}, 2, 1);
        fraction(x, new int[] {0, 1}, new int[] {1, 0}, 1, 2);
        fraction(x, new int[] {0, 6}, new int[] {4, 0}, 12, 5);
        fraction(x, new int[] {0, 1000}, new int[] {1000, 0}, 500, 1);
        fraction(x, new int[] {0, 1000}, new int[] {999, 0}, 999000, 1999);
        fraction(x, new int[] {1000, 0}, new int[] {0, 1}, 1000, 1001);
        LeastRue one = alike(1, 1, 0, 0);
        fraction(one, new int[] {1000}, new int[] {3}, 0, 1);
        LeastRue three = alike(3, 1, 0, 0);
        fraction(three, new int[] {0, 10, 5}, new int[] {10, 0, 5}, 5, 1);
        fraction(three, new int[] {0, 10, 4}, new int[] {10, 0, 4}, 4, 1);
        fraction(three, new int[] {0, 10, 6}, new int[] {10, 0, 6}, 5, 1);
        LeastRue hull = alike(5, 1, 0, 0);
        fraction(hull, new int[] {0, 2, 5, 9, 10}, new int[] {10, 6, 3, 0, 10}, 4, 1);
        fraction(hull, new int[] {5, 2, 0, 9, 10}, new int[] {3, 6, 10, 0, 10}, 4, 1);
        fraction(hull, new int[] {12, 6, 0, 3, 7}, new int[] {0, 3, 10, 5, 7}, 21, 5);
        LeastRue four = alike(8, 4, 0, 0);
        fraction(four, new int[] {0, 0, 0, 0, 1000, 1000, 1000, 999}, new int[] {1000, 1000, 1000, 1000, 0, 0, 0, 0},
            3999, 2);
        LeastRue great = new LeastRue();
        for (int t = 0; t < 12; t++) {
            great.thing(0, 0);
            great.posts(t, t % 6, t < 6 ? t : (t + 1) % 6);
        }
        due("two choices without a thing in common", great.kind(3, 6), 2);
        fraction(great, new int[] {0, 0, 0, 0, 0, 0, 1000, 1000, 1000, 1000, 1000, 1000},
            new int[] {1000, 1000, 1000, 1000, 1000, 999, 0, 0, 0, 0, 0, 0}, 6000 * 5999, 11999);
    }

    private void fraction(LeastRue x, int[] inV, int[] inW, long upper, long lower) {
        tell(x, 2, inV);
        tell(x, 5, inW);
        String of = java.util.Arrays.toString(inV) + " and " + java.util.Arrays.toString(inW);
        due("upper of " + of, x.lots(2, 5, 0), upper);
        due("lower of " + of, x.lots(2, 5, 1), lower);
        due("upper, turned, of " + of, x.lots(5, 2, 0), upper);
        due("lower, turned, of " + of, x.lots(5, 2, 1), lower);
    }

    private void twoSteps() {
        sentence("a set S of THINGS is bought now, each at a PRICE (0 .. 1000; 0 at first)");
        LeastRue x = alike(2, 1, 0, 0);
        tell(x, 0, 8, 9);
        due("at first", x.two(1), 0);
        due("1000", x.price(0, 1000), 0);
        due("paid", x.two(1), 1000);
        due("1001", x.price(0, 1001), -1);
        due("-1", x.price(0, -1), -1);
        due("as it was", x.price(0, 0), 1000);

        sentence("the CHOICE for which that is least");
        due("nothing bought now", x.two(0), 8);
        x.price(1, 3);
        due("thing 1 bought now", x.two(2), 3);

        sentence("DEAREST: over all WORLDS that are there");
        tell(x, 7, 30, 20);
        due("the dearer world", x.two(0), 20);
        x.forget(7);
        due("without it", x.two(0), 8);

        sentence("(What is bought in vain is paid, too.)");
        x.price(0, 5);
        due("both of which one is needed", x.two(3), 8);
        x.kind(0, 0);
        due("all of which none is needed", x.two(3), 8);
        x.price(0, 1000);
        x.price(1, 1000);
        due("at the greatest prices", x.two(3), 2000);
    }

    private void none() {
        sentence("NONE = -1: There is none");
        due("the constant", LeastRue.NONE, -1);
        due("an answer", new LeastRue().choice(1), LeastRue.NONE);
    }
}
