/** Promises 15 to 20: BEST, MOST, TRAIN, MOVED, GIVES, PARTS. */
public final class OwnTest {
    private static final Check c = new Check();

    public static void main(String[] args) {
        best();
        bestOfSeveral();
        most();
        train();
        moved();
        gives();
        parts();
        askedAtOnce();
        behindUndo();
        c.end("OwnTest");
    }

    private static void row(String what, Lift x, int like, int... owners) {
        c.asks(x, what + ", best(-1)", o -> o.best(-1), like);
        for (int t = 0; t < owners.length; t++) {
            int u = t;
            c.asks(x, what + ", best(" + t + ")", o -> o.best(u), owners[u]);
        }
    }

    private static void best() {
        Lift x = Check.holders(Check.of(10, 10), 10, 6, 5);
        Check.land(x, "like 4 p=1&t=0;like 3 p=0&t=1;like 3 p=0&t=2;like 2 p=1&t=2");
        // 0 takes 1 (4) and 1 takes 0 (5): 9; 2 fits behind neither. 0 with 1, 1 with 2: 7.
        row("15", x, 9, 1, 0, -5);
        x.strength(0, 11);
        row("15 stronger", x, 13, 1, 0, 0);
        x.give(0, 0);
        row("15, whose they are now is all one", x, 13, 1, 0, 0);
        c.refuses(x, "15: best(3)", o -> o.best(3), -1001);
        c.refuses(x, "15: best(-2)", o -> o.best(-2), -1001);
        row("15 without PEOPLE", Check.holders(Check.of(), 0, 1), 0, -5, -5);
        row("15, nobody can", Check.holders(Check.of(3, 4), 5, 6), 0, -5, -5);
        row("15, as much as there is is nobody's", Check.holders(Check.of(3), 50, 50, 50, 50, 50, 50, 50), 0, -5, -5, -5, -5, -5, -5, -5);
        Lift z = Check.holders(Check.of(5, 5), 5, 5);
        Check.land(z, "like 9 p=0&t=1");
        row("15, what comes later is liked more by the first", z, 11, 1, 0);
        Lift v = Check.holders(Check.of(5, 5), 5, 5);
        Check.land(v, "like 9 p=1&t=1");
        row("15, what comes later is liked more by the last", v, 11, 0, 1);
        Lift y = Check.holders(Check.of(0, 0), 0, 1);
        row("15, what weighs nothing", y, 1, 0, -5);
    }

    private static void bestOfSeveral() {
        Lift x = Check.holders(Check.of(10, 10, 10), 10, 10, 10, 10);
        row("15, the first of several", x, 3, 0, 1, 2, -5);
        Lift y = Check.holders(Check.of(5, 9), 5, 5, 4);
        // All three: 0 with 0 or 1 and 1 with the other and 2: the first of both.
        row("15, the first of several", y, 3, 0, 1, 1);
        Lift z = Check.holders(Check.of(5, 50), 5, 5, 5);
        row("15, the first of several", z, 3, 0, 1, 1);
        Check.land(z, "like 1 p=1&t=0");
        row("15, the most ahead of the first", z, 4, 1, 0, 1);
        Lift v = Check.holders(Check.of(10), 10, 5, 5);
        Check.land(v, "like 1 t=0");
        row("15, nobody behind all", v, 2, 0, -5, -5);
    }

    private static void most() {
        Lift x = Check.holders(Check.of(10, 10), 10, 6, 5, 5, 4);
        c.asks(x, "16: most()", o -> o.most(), 4);
        Check.land(x, "like 90 t=0");
        c.asks(x, "16: not by LIKE", o -> o.most(), 4);
        x.strength(0, 15);
        x.strength(1, 15);
        c.due("16: all", x.most(), 5);
        c.due("16: none", Check.holders(Check.of(3), 4, 5).most(), 0);
        c.due("16: without PEOPLE", Check.holders(Check.of(), 0).most(), 0);
        c.due("16: without THINGS", Check.holders(Check.of(9)).most(), 0);
        c.due("16: what weighs nothing", Check.holders(Check.of(0), 0, 0, 1).most(), 2);
    }

    private static void train() {
        Lift x = Check.holders(Check.of(9, 5), 10, 6);
        Check.land(x, "like 7 t=0;like 2 t=1");
        // 0 has 1 now (3); with 10 it has 0 (8); 1 with 6 has 1: 3 + 0 as before.
        c.asks(x, "17: train(0)", o -> o.train(0), 5);
        c.asks(x, "17: train(1)", o -> o.train(1), 0);
        x.strength(0, 10);
        c.due("17: train(0)", x.train(0), 0);
        c.due("17: train(1)", x.train(1), 3);
        c.due("17: and BEST", x.best(-1), 8);
        x.strength(0, 99);
        c.due("17: 99 trained", x.train(0), 0);
        c.refuses(x, "17: train(2)", o -> o.train(2), OwnsLift.NONE);
        c.refuses(x, "17: train(-1)", o -> o.train(-1), OwnsLift.NONE);
    }

    private static void moved() {
        Lift x = Check.holders(Check.of(10, 10, 5), 6, 6, 4, 3);
        c.asks(x, "18: nothing is anybody's", o -> o.moved(), 0);
        x.give(0, 0);
        x.give(1, 1);
        c.asks(x, "18: nobody is OVER", o -> o.moved(), 0);
        x.give(2, 0);
        x.give(3, 0);
        c.asks(x, "18: one moved", o -> o.moved(), 1);
        x.give(1, 0);
        c.asks(x, "18: two moved", o -> o.moved(), 2);
        Lift y = Check.holders(Check.of(10, 10), 6, 6, 6);
        y.give(0, 0);
        y.give(1, 0);
        c.asks(y, "18: nobody's stays so", o -> o.moved(), 1);
        y.give(2, 1);
        c.asks(y, "18: there is none such", o -> o.moved(), -5);
        Lift z = Check.holders(Check.of(5, 9), 5, 9);
        z.give(0, 1);
        z.give(1, 0);
        c.due("18: both change", z.moved(), 2);
        Lift v = Check.holders(Check.of(5), 6);
        v.give(0, 0);
        c.due("18: not nobody's", v.moved(), -5);
    }

    private static void gives() {
        Lift x = Check.holders(Check.of(10, 10), 4, 4, 4, 9, 1);
        for (int t = 0; t < 4; t++) {
            x.give(t, 0);
        }
        Check.land(x, "like 4 t=3;like 1 p=1");
        // 21 of 10: without 3 and one of 0..2: 6 away; without 3: 12 left; without 0, 1, 2: 9 left.
        c.asks(x, "19: gives(0, 0)", o -> o.gives(0, 0), 7);
        c.asks(x, "19: gives(0, 1)", o -> o.gives(0, 1), 3);
        x.strength(0, 12);
        c.due("19: gives(0, 0)", x.gives(0, 0), 7);
        Check.land(x, "like 1 p=1");
        c.due("19: the least LIKE", x.gives(0, 0), 8);
        c.due("19: the least LIKE", x.gives(0, 1), 1);
        x.strength(0, 17);
        c.due("19: of several the least", x.gives(0, 0), 1);
        x.strength(0, 21);
        c.due("19: none", x.gives(0, 0), 0);
        c.due("19: none", x.gives(0, 1), 0);
        c.due("19: nothing", x.gives(1, 0), 0);
        x.strength(0, 0);
        c.due("19: all", x.gives(0, 0), 15);
        c.due("19: all", x.gives(0, 1), 4);
        c.refuses(x, "19: gives(2, 0)", o -> o.gives(2, 0), OwnsLift.NONE);
        c.refuses(x, "19: gives(-1, 0)", o -> o.gives(-1, 0), OwnsLift.NONE);
        c.refuses(x, "19: gives(0, 2)", o -> o.gives(0, 2), OwnsLift.NONE);
        c.refuses(x, "19: gives(0, -1)", o -> o.gives(0, -1), OwnsLift.NONE);
    }

    /** Each is asked right behind what changes it, with no other call between. */
    private static void askedAtOnce() {
        Lift x = Check.holders(Check.of(10, 10), 5, 6, 7);
        c.due("15: at once", x.best(-1), 2);
        x.strength(0, 11);
        c.due("16: at once", x.most(), 3);
        x.strength(0, 1);
        c.due("16: at once", x.most(), 1);
        x.strength(0, 4);
        c.due("17: at once", x.train(0), 1);
        x.give(2, 0);
        c.due("18: at once", x.moved(), 1);
        x.give(1, 0);
        c.due("19: at once", x.gives(0, 0), 6);
        x.give(1, -1);
        c.due("20: at once", x.parts(0, 0), 4);
        x.give(1, 1);
        c.due("22: at once", x.rest(), 0);
        x.strength(0, 7);
        x.strength(1, 7);
        Check.land(x, "like 3 p=0&t=1;like 3 p=1&t=2");
        c.due("21: at once", x.swap(1), 12);
        x.give(1, -1);
        c.due("21: at once", x.swap(0), 0);
        x.give(1, 1);
        c.due("22: at once", x.rest(), 1);
        c.due("23: at once", x.fair(0, 1, 1), 2);
        x.give(2, -1);
        c.due("23: at once", x.fair(0, 1, 0), 0);
        x.give(1, 0);
        x.give(2, 1);
        c.due("23: at once", x.fair(1, 0, 0), 1);
        x.thing(5);
        c.due("24: at once", x.had(5, 0), 2);
        x.strength(0, 5);
        c.due("25: at once", x.odds(0), 0);
        x.see(0, true);
        c.due("27: at once", x.looked(), 0);
        x.strength(0, 6);
        c.due("27: at once", x.looked(), -5);
        c.due("13: at once", x.bench(0), 0);
        x.strength(0, 5);
        c.due("13: at once", x.bench(0), 1);
        c.due("5: at once", x.of(0, 5), 0);
    }

    /** What was asked of more THINGS and PEOPLE leaves no trace in what is asked behind undo(). */
    private static void behindUndo() {
        Lift x = Check.holders(Check.of(5, 5), 5, 5);
        x.image();
        x.person(0, 0, 50, 0);
        x.thing(1);
        x.thing(1);
        Check.land(x, "like 9 p<9");
        c.due("15: with more", x.best(-1), 40);
        x.undo();
        c.due("15: behind undo()", x.best(0), 0);
        c.due("15: behind undo()", x.best(1), 1);
        c.due("15: behind undo()", x.best(-1), 2);
        c.due("16: behind undo()", x.most(), 2);
    }

    private static void fraction(String what, Lift x, int person, long above, long below) {
        c.asks(x, what + " above", o -> o.parts(person, 0), above);
        c.asks(x, what + " below", o -> o.parts(person, 1), below);
    }

    private static void parts() {
        Lift x = Check.holders(Check.of(10, 8), 6, 4, 9, 0);
        Check.land(x, "like 2 t=0&p=0;like 2 t=1;like 1 t=2;like 5 t=3");
        fraction("20: nothing", x, 0, 0, 1);
        x.give(0, 0);
        x.give(1, 0);
        fraction("20: whole ones", x, 0, 6, 1);
        x.give(2, 0);
        x.give(3, 0);
        // 6, then 3/4, 3/6, 2/9: 3 and 4 and 0 whole.
        fraction("20: up to LIFTS", x, 0, 12, 1);
        x.strength(0, 8);
        fraction("20: a part of 0: 4/6 of 3", x, 0, 11, 1);
        x.strength(0, 9);
        fraction("20: a part of 0: 5/6 of 3", x, 0, 23, 2);
        x.strength(0, 11);
        fraction("20: a part of 2: 1/9 of 2", x, 0, 110, 9);
        x.strength(0, 0);
        fraction("20: what weighs nothing", x, 0, 6, 1);
        x.give(3, -1);
        fraction("20: lifts nothing", x, 0, 0, 1);
        fraction("20: another's", x, 1, 0, 1);
        c.refuses(x, "20: parts(2, 0)", o -> o.parts(2, 0), OwnsLift.NO);
        c.refuses(x, "20: parts(-1, 0)", o -> o.parts(-1, 0), OwnsLift.NO);
        c.refuses(x, "20: parts(0, 2)", o -> o.parts(0, 2), OwnsLift.NO);
        c.refuses(x, "20: parts(0, -1)", o -> o.parts(0, -1), OwnsLift.NO);
    }
}
