/** Promises 13 and 14: BENCHES by KIND, YEARS. */
public final class BenchTest {
    private static final Check c = new Check();

    public static void main(String[] args) {
        refusals();
        holder();
        full();
        lending();
        dearest();
        handing();
        giving();
        told();
        year();
        c.end("BenchTest");
    }

    private static void owners(String what, Lift x, int... want) {
        for (int t = 0; t < want.length; t++) {
            c.due(what + ", OWNER of " + t, x.at(t, 1), want[t]);
        }
    }

    /** One of that KIND (with strength) who owns THINGS of those WEIGHTS, under that LAND. */
    private static Lift alone(int kind, int strength, String land, int... weights) {
        Lift x = new Lift();
        x.person(kind, 3, strength, 0);
        Check.land(x, land);
        for (int t = 0; t < weights.length; t++) {
            x.thing(weights[t]);
            x.give(t, 0);
        }
        return x;
    }

    private static void refusals() {
        Lift x = alone(0, 10, "like 1 p=0", 5, 6);
        c.refuses(x, "13: bench(1)", o -> o.bench(1), OwnsLift.NONE);
        c.refuses(x, "13: bench(-1)", o -> o.bench(-1), OwnsLift.NONE);
        Lift y = alone(0, 10, "like 1 p=0", 5, 5);
        c.asks(y, "13: not OVER", o -> o.bench(0), 0);
    }

    private static final String LIKES = "like 4 t=0;like 2 t=1;like 2 t=2;like 9 t=3";

    private static void holder() {
        Lift x = alone(0, 20, LIKES, 10, 5, 15, 8);
        c.due("13: HOLDER", x.bench(0), 2);
        owners("13: HOLDER", x, 0, -5, -5, 0);
        Lift y = alone(0, 8, LIKES, 10, 0, 15, 8);
        c.due("13: HOLDER drops what weighs nothing, too", y.bench(0), 3);
        owners("13: HOLDER", y, -5, -5, -5, 0);
    }

    private static void full() {
        Lift x = alone(1, 20, LIKES, 15, 5, 15, 8);
        c.due("13: FULL", x.bench(0), 2);
        owners("13: FULL", x, -5, 0, -5, 0);
        Lift y = alone(1, 30, LIKES, 15, 5, 15, 8);
        c.due("13: FULL, the least number", y.bench(0), 1);
        owners("13: FULL", y, -5, 0, 0, 0);
    }

    private static void lending() {
        Lift x = alone(3, 20, LIKES, 10, 5, 15, 8);
        c.due("13: LENDING, v more", x.bench(0), 2);
        owners("13: LENDING", x, 0, -5, -5, 0);
        Lift y = alone(3, 30, LIKES, 10, 5, 15, 8);
        c.due("13: LENDING lifts 33 of 38", y.bench(0), 1);
        owners("13: LENDING", y, 0, -5, 0, 0);
    }

    private static void dearest() {
        // LIKE by WEIGHT: 5/10, 3/7, 3/0, 10/24
        Lift x = alone(4, 20, LIKES, 10, 7, 0, 24);
        c.due("13: DEAREST", x.bench(0), 1);
        owners("13: DEAREST", x, 0, 0, 0, -5);
        Lift y = alone(4, 0, LIKES, 10, 7, 0, 24);
        c.due("13: DEAREST, what weighs nothing last", y.bench(0), 3);
        owners("13: DEAREST", y, -5, -5, 0, -5);
        Lift z = alone(4, 10, "like 2 t=1", 7, 21, 7);
        c.due("13: DEAREST, as much of several", z.bench(0), 2);
        owners("13: DEAREST, of several the least number", z, -5, -5, 0);
        Lift v = alone(4, 40, "like 1 t=0", 31, 20);
        c.due("13: DEAREST, not cut", v.bench(0), 1);
        owners("13: DEAREST, 2/31 is more than 1/20", v, 0, -5);
        Lift q = alone(4, 9, "like 2 t=0;like 4 t=1", 4, 6);
        c.due("13: DEAREST", q.bench(0), 1);
        owners("13: DEAREST, 3/4 is less than 5/6", q, -5, 0);
        Lift w = alone(4, 40, "like 1 t=0", 50, 20);
        c.due("13: DEAREST, not cut", w.bench(0), 1);
        owners("13: DEAREST, 2/50 is less than 1/20", w, -5, 0);
    }

    private static Lift three(int kind, int own) {
        Lift x = new Lift();
        for (int p = 0; p < 3; p++) {
            x.person(p == own ? kind : 0, 0, p == own ? 10 : 20, 0);
        }
        Check.land(x, "like 3 t=0;like 5 t=1;like 9 t=2");
        return x;
    }

    private static void handing() {
        Lift x = three(2, 1);
        for (int t = 0; t < 3; t++) {
            x.thing(10);
            x.give(t, 1);
        }
        x.thing(15);
        x.give(3, 2);
        c.due("13: HANDING", x.bench(1), 2);
        owners("13: HANDING: 2 can't, so 0", x, 0, 0, 1, 2);
        Lift y = three(2, 1);
        for (int t = 0; t < 4; t++) {
            y.thing(t == 3 ? 21 : 20);
            y.give(t, 1);
        }
        c.due("13: HANDING", y.bench(1), 4);
        owners("13: HANDING: one each, nobody's", y, 2, 0, -5, -5);
        Lift z = alone(2, 5, LIKES, 6);
        c.due("13: HANDING alone", z.bench(0), 1);
        owners("13: HANDING alone: nobody's", z, -5);
        Lift v = new Lift();
        v.person(2, 0, 10, 0);
        v.person(2, 0, 5, 0);
        v.thing(6);
        v.thing(6);
        v.give(0, 0);
        v.give(1, 0);
        c.due("13: HANDING", v.bench(0), 1);
        owners("13: HANDING never to that one", v, -5, 0);
    }

    private static void giving() {
        Lift x = three(5, 2);
        for (int t = 0; t < 3; t++) {
            x.thing(10);
            x.give(t, 2);
        }
        c.due("13: GIVING", x.bench(2), 2);
        owners("13: GIVING, the most LIKE, round", x, 2, 0, 0);
        Lift y = three(5, 0);
        y.thing(21);
        y.give(0, 0);
        c.due("13: GIVING", y.bench(0), 1);
        owners("13: GIVING: there is none", y, -5);
        Lift z = three(5, 1);
        z.thing(0);
        z.thing(0);
        z.thing(0);
        z.thing(20);
        z.thing(20);
        for (int t = 0; t < 5; t++) {
            z.give(t, 1);
        }
        c.due("13: GIVING, all that is liked more goes", z.bench(1), 5);
        owners("13: GIVING", z, 2, 2, 2, 2, 0);
    }

    private static void told() {
        Lift x = alone(6, 10, LIKES, 10, 5, 15, 8);
        x.row(0, 3);
        x.row(0, 2);
        x.row(0, 0);
        c.due("13: TOLD", x.bench(0), 3);
        owners("13: TOLD, by its ROW", x, -5, 0, -5, -5);
        Lift y = alone(6, 10, LIKES, 10, 0, 15, 8);
        y.row(0, 1);
        y.row(0, 3);
        y.give(3, -1);
        c.due("13: TOLD, passes what weighs nothing or isn't theirs", y.bench(0), 2);
        owners("13: TOLD, then the least LIKE", y, 0, -5, -5, -5);
        Lift u = alone(6, 10, LIKES, 10, 5, 15, 0);
        u.row(0, 3);
        u.row(0, 2);
        c.due("13: TOLD, passes what weighs nothing", u.bench(0), 2);
        owners("13: TOLD, the next of the ROW, then the least LIKE", u, 0, -5, -5, 0);
        Lift z = alone(6, 20, LIKES, 10, 5, 15, 8);
        c.due("13: TOLD without a ROW", z.bench(0), 2);
        owners("13: TOLD as LENDING", z, 0, -5, -5, 0);
        Lift v = alone(6, 35, LIKES, 10, 5, 15, 8);
        v.row(0, 3);
        c.asks(v, "13: TOLD lifts v more", o -> o.bench(0), 0);
    }

    private static void year() {
        Lift x = new Lift();
        x.person(0, 0, 0, 98);
        x.person(0, 0, 0, 9);
        x.thing(30);
        x.thing(3);
        Check.land(x, "wear 5 t=1;wear 1 w=3;wear 2 t=0;wear 9 y=0;lift 1 y=1;lift 2 a=1");
        c.due("14: year()", x.year(), 1);
        c.due("14: AGE", x.of(0, 3), 99);
        c.due("14: AGE", x.of(1, 3), 10);
        c.due("14: WEIGHT together", x.at(0, 0), 27);
        c.due("14: WEIGHT 0 at least", x.at(1, 0), 0);
        c.due("14: LIFTS", x.of(0, 4), 1);
        c.due("14: LIFTS", x.of(1, 4), 3);
        c.due("14: year()", x.year(), 2);
        c.due("14: AGE 99 at most", x.of(0, 3), 99);
        c.due("14: WEIGHT", x.at(0, 0), 25);
        for (int y = 3; y <= 99; y++) {
            c.due("14: year()", x.year(), y);
        }
        c.due("14: when()", x.when(), 99);
        c.refuses(x, "14: year() of 99", o -> o.year(), OwnsLift.STATE);
    }
}
