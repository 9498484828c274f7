/** Promises 28 to 33: ACTS, THE TRACE, as, THE IMAGE, undo, count. */
public final class ActTest {
    private static final Check c = new Check();

    public static void main(String[] args) {
        holder();
        full();
        handing();
        lending();
        dearest();
        giving();
        told();
        noSuch();
        as();
        image();
        wholeImage();
        imageOfRows();
        undoOfLand();
        count();
        c.end("ActTest");
    }

    /** One of that KIND with number 3, v 4. */
    private static Lift third(int kind) {
        Lift x = new Lift();
        x.person(0, 0, 0, 0);
        x.person(0, 0, 0, 0);
        x.person(0, 0, 0, 0);
        x.person(kind, 4, 0, 0);
        return x;
    }

    private static void act(int kind, int act, int x, int want, int... bodies) {
        Lift o = third(kind);
        o.act(3, 2, 1);
        c.due("28: act " + act + " of KIND " + kind, o.act(3, act, x), want);
        for (int i = 0; i < bodies.length; i++) {
            c.due("29: body " + i + " of act " + act + " of KIND " + kind, o.trace(i), bodies[i]);
        }
        c.due("29: no more", o.trace(bodies.length), OwnsLift.NONE);
        c.due("29: none ahead", o.trace(-1), OwnsLift.NONE);
        c.due("33: bodies that ran", o.count(5), bodies.length);
    }

    private static void holder() {
        act(0, 0, 10, 13, 1);
        act(0, 1, 10, 9, 2, 1);
        act(0, 2, 10, 18, 3, 2, 1);
        act(0, 0, Integer.MAX_VALUE, Integer.MIN_VALUE + 2, 1);
        act(0, 1, Integer.MIN_VALUE, Integer.MAX_VALUE, 2, 1);
        act(0, 2, 1 << 30, Integer.MIN_VALUE - 2, 3, 2, 1);
    }

    private static void full() {
        act(1, 0, 10, 33, 11, 1);
        act(1, 1, 10, 29, 2, 11, 1);
        act(1, 2, 10, 58, 3, 2, 11, 1);
        act(1, 0, 1 << 30, 3 * (1 << 30) + 3, 11, 1);
    }

    private static void handing() {
        act(2, 0, 10, 13, 1);
        act(2, 1, 10, -9, 21, 2, 1);
        act(2, 2, 10, -18, 3, 21, 2, 1);
    }

    private static void lending() {
        act(3, 0, 10, 13, 1);
        act(3, 1, 10, 9, 2, 1);
        act(3, 2, 10, 18 ^ 7, 31, 3, 2, 1);
    }

    private static void dearest() {
        act(4, 0, 10, 33, 11, 1);
        act(4, 1, 10, 29, 2, 11, 1);
        // tells(9) of HOLDER: (27 + 3 - 4) * 2 = 52, and lifts(2): 6 + 3 = 9
        act(4, 2, 10, 61, 41, 3, 2, 11, 1, 11, 1);
    }

    private static void giving() {
        act(5, 0, 10, 13 ^ 3, 51, 1);
        act(5, 1, 10, -((13 ^ 3) - 4), 21, 2, 51, 1);
        act(5, 2, 10, -((13 ^ 3) - 4) * 2, 3, 21, 2, 51, 1);
    }

    private static void told() {
        act(6, 0, 10, 13, 1);
        act(6, 1, 10, 13, 61, 2, 1);
        act(6, 2, 10, 26 ^ 7, 31, 3, 61, 2, 1);
    }

    private static void noSuch() {
        Lift x = third(0);
        int[][] wrong = {{4, 0}, {-1, 0}, {0, 3}, {0, -1}};
        for (int[] w : wrong) {
            x.act(3, 2, 10);
            c.due("33: count(5)", x.count(5), 3);
            c.due("28: act(" + w[0] + ", " + w[1] + ", 5)", x.act(w[0], w[1], 5), 0);
            c.due("28: no TRACE then", x.trace(0), OwnsLift.NONE);
            c.due("28: no bodies then", x.count(5), 0);
        }
        x.act(3, 1, 10);
        c.refuses(x, "29: trace(-1)", o -> o.trace(-1), OwnsLift.NONE);
        c.refuses(x, "29: trace(2)", o -> o.trace(2), OwnsLift.NONE);
        c.refuses(x, "29: trace(20)", o -> o.trace(20), OwnsLift.NONE);
    }

    private static void as() {
        int[][] under = {{0}, {0, 1}, {0, 2}, {0, 3}, {0, 1, 4}, {0, 2, 5}, {0, 3, 6}};
        for (int kind = 0; kind < 7; kind++) {
            Lift x = third(kind);
            for (int k = 0; k < 7; k++) {
                int want = -6;
                for (int above : under[kind]) {
                    want = above == k ? 4 : want;
                }
                int asked = k;
                c.asks(x, "30: as(3, " + k + ") of KIND " + kind, o -> o.as(3, asked), want);
            }
        }
        Lift x = third(6);
        c.refuses(x, "30: as(4, 0)", o -> o.as(4, 0), OwnsLift.NONE);
        c.refuses(x, "30: as(-1, 0)", o -> o.as(-1, 0), OwnsLift.NONE);
        c.refuses(x, "30: as(0, 7)", o -> o.as(0, 7), OwnsLift.NONE);
        c.refuses(x, "30: as(0, -1)", o -> o.as(0, -1), OwnsLift.NONE);
    }

    private static void image() {
        Lift x = new Lift();
        c.refuses(x, "32: undo() without an IMAGE", o -> o.undo(), OwnsLift.STATE);
        c.due("31: image() of nobody", x.image(), 0);
        x.person(0, 0, 0, 0);
        x.act(0, 1, 0);
        c.due("32: undo()", x.undo(), 0);
        c.due("32: nobody", x.count(0), 0);
        c.due("32: THE TRACE stays", x.count(5), 2);
        c.due("32: THE TRACE stays", x.trace(0), 2);
        x.person(0, 0, 0, 0);
        x.person(0, 0, 0, 0);
        c.due("32: undo() again", x.undo(), 0);
        x.person(0, 0, 0, 0);
        x.person(0, 0, 0, 0);
        c.due("31: image() of two", x.image(), 2);
        x.person(0, 0, 0, 0);
        c.due("32: undo()", x.undo(), 2);
        c.due("32: undo(), nothing since", x.undo(), 2);
    }

    private static Lift world() {
        Lift x = new Lift();
        x.person(6, 5, 40, 33);
        x.person(2, 1, 20, 98);
        x.thing(20);
        x.thing(30);
        x.give(0, 0);
        x.give(1, 1);
        x.row(0, 0);
        x.row(0, 1);
        x.see(0, true);
        x.see(1, false);
        Check.land(x, "like 3 p=0;wear 4 t=1;ill 2 k=2;lift 6 y=0");
        x.year();
        Check.feed(x, "like 7 p");
        return x;
    }

    private static void wholeImage() {
        Lift x = world();
        x.image();
        Lift before = x.again();
        x.person(1, 1, 1, 1);
        x.strength(0, 3);
        x.thing(9);
        x.give(0, -1);
        x.row(0, 0);
        x.see(0, true);
        x.bench(1);
        x.year();
        Check.feed(x, "=0");
        x.land();
        Check.land(x, "like 1 p=1");
        c.differ("32: what changed", x, before);
        c.due("32: undo()", x.undo(), 2);
        c.same("32: all is as THE IMAGE", x, before);
        x.row(0, -1);
        x.see(-1, true);
        x.see(1, true);
        x.see(1, true);
        x.land();
        x.undo();
        c.same("32: all is as THE IMAGE again", x, before);
        Check.feed(x, "=0");
        c.due("32: THE TAPE's signs", x.land(), 1);
        c.due("32: and what they say", x.like(0, 0), 8);
        x.undo();
        c.due("32: THE TAPE back", x.count(4), 8);
    }

    private static void imageOfRows() {
        Lift x = new Lift();
        x.person(6, 0, 0, 0);
        x.thing(1);
        x.thing(1);
        x.give(0, 0);
        x.give(1, 0);
        x.strength(0, 1);
        x.row(0, 1);
        x.image();
        x.row(0, -1);
        x.row(0, 0);
        x.undo();
        x.bench(0);
        c.due("32: the ROW's THINGS", x.at(1, 1), -5);
        c.due("32: the ROW's THINGS", x.at(0, 1), 0);
        Lift y = new Lift();
        y.person(0, 0, 0, 0);
        y.see(0, true);
        y.image();
        y.see(-1, true);
        y.see(0, false);
        c.due("27: not so", y.looked(), 0);
        y.undo();
        c.due("32: SEEN", y.looked(), -5);
    }

    private static void undoOfLand() {
        Lift x = new Lift();
        x.person(0, 0, 0, 0);
        x.thing(1);
        x.image();
        Check.land(x, "like 9 p=0");
        c.due("3: holds", x.like(0, 0), 10);
        x.undo();
        c.due("32: no LAND", x.like(0, 0), 1);
        c.due("32: no LAND", x.count(2), 0);
        for (int n = 0; n < 5; n++) {
            c.due("3: LANDS anew", Check.land(x, "like 9 p=0"), n);
        }
    }

    private static void count() {
        Lift x = world();
        int[] want = {2, 2, 1, 2, 8, 0};
        for (int what = 0; what < want.length; what++) {
            int w = what;
            c.asks(x, "33: count(" + what + ")", o -> o.count(w), want[w]);
        }
        c.refuses(x, "33: count(6)", o -> o.count(6), OwnsLift.NONE);
        c.refuses(x, "33: count(-1)", o -> o.count(-1), OwnsLift.NONE);
    }
}
