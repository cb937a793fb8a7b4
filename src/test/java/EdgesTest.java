import java.util.ArrayList;
import java.util.List;

/**
 * Every call with every mix of numbers at the edges, in benches that are empty, full, without CHOICES or plain, put
 * to the program and to the model: no call throws, and each answers what is due.
 */
public final class EdgesTest extends Benches {
    private static final int[] EDGES = {MIN, MIN + 1, -2, -1, 0, 1, 2, 3, 4, 5, 6, 7, 8, 11, 12, 13, 17, 18, 99, 100, 101,
        1000, 1001, 4095, 4096, MAX - 1, MAX};
    private static final int[] SINGLE = {0};
    private static final int MOST_CALLS = 300;

    private static final int NEW = 0;
    private static final int FULL = 1;
    private static final int WITHOUT_CHOICES = 2;
    private static final int ROADS = 3;

    private interface Real {
        long ask(LeastRue x, int a, int b, int c);
    }

    private interface Due {
        long ask(Model m, int a, int b, int c);
    }

    private record Call(String name, int numbers, Real real, Due due) {
    }

    private final Check check = new Check("EdgesTest");
    private final List<Call> calls = new ArrayList<>();
    private LeastRue real;
    private Model model;
    private int made;

    public static void main(String[] args) {
        EdgesTest test = new EdgesTest();
        test.listChanges();
        test.listQuestions();
        test.listQuestionsOfWorlds();
        for (int bench = NEW; bench <= ROADS; bench++) {
            for (Call call : test.calls) {
                test.tryAll(bench, call);
            }
        }
        test.check.end();
    }

    private void add(String name, int numbers, Real asked, Due due) {
        calls.add(new Call(name, numbers, asked, due));
    }

    private void listChanges() {
        add("thing", 2, (x, a, b, c) -> x.thing(a, b), (m, a, b, c) -> m.thing(a, b));
        add("ends", 3, (x, a, b, c) -> x.ends(a, b, c), (m, a, b, c) -> m.ends(a, b, c));
        add("posts", 3, (x, a, b, c) -> x.posts(a, b, c), (m, a, b, c) -> m.posts(a, b, c));
        add("price", 2, (x, a, b, c) -> x.price(a, b), (m, a, b, c) -> m.price(a, b));
        add("kind", 2, (x, a, b, c) -> x.kind(a, b), (m, a, b, c) -> m.kind(a, b));
        add("sheet", 3, (x, a, b, c) -> x.sheet(a, b, c), (m, a, b, c) -> m.sheet(a, b, c));
        add("write", 3, (x, a, b, c) -> x.write(a, b, c), (m, a, b, c) -> m.write(a, b, c));
        add("world", 3, (x, a, b, c) -> x.world(a, b, c), (m, a, b, c) -> m.world(a, b, c));
        add("forget", 1, (x, a, b, c) -> x.forget(a), (m, a, b, c) -> m.forget(a));
        add("image", 1, (x, a, b, c) -> x.image(a), (m, a, b, c) -> m.image(a));
        add("back", 1, (x, a, b, c) -> x.back(a), (m, a, b, c) -> m.back(a));
    }

    private void listQuestions() {
        add("count", 1, (x, a, b, c) -> x.count(a), (m, a, b, c) -> m.count(a));
        add("choice", 1, (x, a, b, c) -> x.choice(a), (m, a, b, c) -> m.choice(a));
        add("find", 1, (x, a, b, c) -> x.find(a), (m, a, b, c) -> m.find(a));
        add("of", 2, (x, a, b, c) -> x.of(a, b), (m, a, b, c) -> m.of(a, b));
        add("cost", 2, (x, a, b, c) -> x.cost(a, b), (m, a, b, c) -> m.cost(a, b));
        add("cheapest", 1, (x, a, b, c) -> x.cheapest(a), (m, a, b, c) -> m.cheapest(a));
        add("rue", 1, (x, a, b, c) -> x.rue(a), (m, a, b, c) -> m.rue(a));
        add("rival", 1, (x, a, b, c) -> x.rival(a), (m, a, b, c) -> m.rival(a));
        add("best", 0, (x, a, b, c) -> x.best(), (m, a, b, c) -> m.best());
        add("many", 0, (x, a, b, c) -> x.many(), (m, a, b, c) -> m.many());
        add("middle", 0, (x, a, b, c) -> x.middle(), (m, a, b, c) -> m.middle());
        add("hold", 1, (x, a, b, c) -> x.hold(a), (m, a, b, c) -> m.hold(a));
        add("dearest", 2, (x, a, b, c) -> x.dearest(a, b), (m, a, b, c) -> m.dearest(a, b));
        add("few", 1, (x, a, b, c) -> x.few(a), (m, a, b, c) -> m.few(a));
    }

    private void listQuestionsOfWorlds() {
        add("costIn", 2, (x, a, b, c) -> x.costIn(a, b), (m, a, b, c) -> m.costIn(a, b));
        add("cheapestIn", 1, (x, a, b, c) -> x.cheapestIn(a), (m, a, b, c) -> m.cheapestIn(a));
        add("rueOf", 1, (x, a, b, c) -> x.rueOf(a), (m, a, b, c) -> m.rueOf(a));
        add("bestOf", 0, (x, a, b, c) -> x.bestOf(), (m, a, b, c) -> m.bestOf());
        add("front", 3, (x, a, b, c) -> x.front(a, b, c), (m, a, b, c) -> m.front(a, b, c));
        add("lots", 3, (x, a, b, c) -> x.lots(a, b, c), (m, a, b, c) -> m.lots(a, b, c));
        add("two", 1, (x, a, b, c) -> x.two(a), (m, a, b, c) -> m.two(a));
        add("first", 0, (x, a, b, c) -> x.first(), (m, a, b, c) -> m.first());
    }

    private void tryAll(int bench, Call call) {
        make(bench);
        for (int a : call.numbers > 0 ? EDGES : SINGLE) {
            for (int b : call.numbers > 1 ? EDGES : SINGLE) {
                for (int c : call.numbers > 2 ? EDGES : SINGLE) {
                    if (made > MOST_CALLS) {
                        make(bench);
                    }
                    made += 2;
                    String told = "bench " + bench + ", " + call.name + " of " + a + ", " + b + ", " + c;
                    check.due(told, call.real.ask(real, a, b, c), call.due.ask(model, a, b, c));
                    check.due("status after " + told, real.status(), model.status());
                }
            }
        }
    }

    private void make(int bench) {
        real = new LeastRue();
        model = new Model();
        made = 0;
        if (bench == NEW) {
            return;
        }
        int things = bench == FULL ? 12 : 4;
        for (int t = 0; t < things; t++) {
            both("thing", t, 2 * t + 1, 0);
            both("posts", t, t % 3, (t + 1) % 4);
            both("price", t, 20 - t, 0);
        }
        both("sheet", 0, 2, 8);
        both("sheet", 2, 1, 3);
        both("write", 0, 0, 5);
        both("write", 0, 1, 77);
        both("world", 0, 0, 0);
        both("world", 7, 0, 1);
        both("kind", bench == ROADS ? 1 : 0, bench == FULL ? 11 : bench == ROADS ? 3 : 5, 0);
        both("image", 1, 0, 0);
    }

    private void both(String name, int a, int b, int c) {
        for (Call call : calls) {
            if (call.name.equals(name)) {
                made++;
                check.due(name, call.real.ask(real, a, b, c), call.due.ask(model, a, b, c));
            }
        }
    }
}
