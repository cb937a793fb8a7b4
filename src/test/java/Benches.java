/** For tests to extend: small benches that they begin with, and all that one can be asked, as a text. */
abstract class Benches {
    static final int MIN = Integer.MIN_VALUE;
    static final int MAX = Integer.MAX_VALUE;

    private static final int MOST_ASKED = 6;

    static int[] ends(int low, int high) {
        return new int[] {low, high};
    }

    static int[] road(int one, int other) {
        return new int[] {one, other};
    }

    /** THINGS with these ENDS, and all sets of k of them. */
    static LeastRue heap(int k, int[]... ends) {
        LeastRue x = new LeastRue();
        for (int[] e : ends) {
            x.thing(e[0], e[1]);
        }
        x.kind(0, k);
        return x;
    }

    /** So many THINGS that are all alike, and all sets of k of them. */
    static LeastRue alike(int things, int k, int low, int high) {
        LeastRue x = new LeastRue();
        for (int t = 0; t < things; t++) {
            x.thing(low, high);
        }
        x.kind(0, k);
        return x;
    }

    static LeastRue roads(int[]... posts) {
        LeastRue x = new LeastRue();
        for (int t = 0; t < posts.length; t++) {
            x.thing(0, 0);
            x.posts(t, posts[t][0], posts[t][1]);
        }
        return x;
    }

    /** WORLD w by way of SHEET 3. */
    static int tell(LeastRue x, int w, int... costs) {
        x.sheet(3, 2, costs.length);
        for (int i = 0; i < costs.length; i++) {
            x.write(3, i, costs[i]);
        }
        return x.world(w, 3, 0);
    }

    /** What WORLD 0 comes to hold for THING 0 when v is written in SHEET s; -1 if it is refused. */
    static int readBack(LeastRue x, int s, int v) {
        x.write(s, 0, v);
        return x.world(0, s, 0) < 0 ? -1 : x.of(0, 10);
    }

    /** A bench with something of everything: roads, prices, three WORLDS, two SHEETS, an IMAGE. */
    static LeastRue full() {
        LeastRue x = roads(road(0, 1), road(1, 2), road(2, 0));
        for (int t = 0; t < 3; t++) {
            x.ends(t, 2 + t, 9 - t);
            x.price(t, 3 + t);
        }
        tell(x, 0, 5, 1, 4);
        x.image(1);
        tell(x, 4, 1, 6, 2);
        tell(x, 7, 3, 3, 3);
        x.sheet(1, 0, 2);
        x.write(1, 1, 77);
        x.kind(2, 3);
        return x;
    }

    /** All that a small bench answers, its IMAGES and SHEETS in the end: the bench is not the same afterwards. */
    static String answers(LeastRue x) {
        StringBuilder s = new StringBuilder();
        asked(x, s);
        for (int sheet = 0; sheet < 4; sheet++) {
            for (int from = 0; from < 4; from++) {
                s.append(" s").append(x.world(6, sheet, from)).append('=').append(x.of(0, 16));
            }
            s.append(" end").append(x.write(sheet, 2, 0)).append(x.write(sheet, 99, 0));
        }
        for (int image = 0; image < 3; image++) {
            s.append(" i").append(x.back(image)).append(x.count(0)).append(x.count(1)).append(x.count(2));
        }
        return s.toString();
    }

    private static void asked(LeastRue x, StringBuilder s) {
        for (int what = 0; what < MOST_ASKED; what++) {
            s.append(' ').append(x.count(what));
        }
        for (int t = 0; t < x.count(0) && t < MOST_ASKED; t++) {
            for (int what = 0; what < 18; what++) {
                s.append(' ').append(x.of(t, what));
            }
            s.append(" h").append(x.hold(t));
        }
        for (int c = 0; c < x.count(1) && c < MOST_ASKED; c++) {
            s.append(" c").append(x.choice(c)).append(' ').append(x.rue(c)).append(' ').append(x.rueOf(c));
        }
        s.append(" b").append(x.best()).append(x.many()).append(x.middle()).append(x.few(1)).append(x.bestOf());
        s.append(" t").append(x.first()).append(' ').append(x.two(0)).append(' ').append(x.lots(0, 4, 0));
    }
}
