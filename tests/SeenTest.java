/** Promises 26 and 27: SEEN, LOOKED at. */
public final class SeenTest {
    private static final Check c = new Check();

    public static void main(String[] args) {
        see();
        looked();
        c.end("SeenTest");
    }

    private static void see() {
        Lift x = new Lift();
        c.refuses(x, "26: see(0, true)", o -> o.see(0, true), OwnsLift.NONE);
        c.due("26: see(-1, true)", x.see(-1, true), 0);
        x.person(0, 0, 5, 0);
        x.person(0, 0, 5, 0);
        c.refuses(x, "26: see(2, true)", o -> o.see(2, true), OwnsLift.NONE);
        c.refuses(x, "26: see(-2, false)", o -> o.see(-2, false), OwnsLift.NONE);
        for (int n = 1; n <= 12; n++) {
            c.due("26: see(1, true)", x.see(1, true), n);
        }
        c.refuses(x, "26: a thirteenth", o -> o.see(0, true), OwnsLift.FULL);
        c.refuses(x, "26: NONE ahead of FULL", o -> o.see(2, true), OwnsLift.NONE);
        c.due("26: count(3)", x.count(3), 12);
        c.due("26: see(-1, false)", x.see(-1, false), 0);
        c.due("26: none then", x.count(3), 0);
        c.due("26: anew", x.see(0, false), 1);
        c.due("26: and looked()", x.looked(), 0);
    }

    private static void looked() {
        Lift x = new Lift();
        x.person(2, 0, 10, 0);
        x.person(1, 0, 12, 0);
        x.thing(6);
        x.thing(8);
        x.thing(5);
        x.give(0, 0);
        x.give(1, 0);
        x.give(2, 1);
        c.due("27: none", x.looked(), -5);
        x.see(1, true);
        x.see(0, false);
        x.see(0, true);
        c.asks(x, "27: all so", o -> o.looked(), -5);
        // 0 hands 6 on to 1, who has 11 then and lifts it.
        x.see(1, true);
        c.asks(x, "27: all so", o -> o.looked(), -5);
        x.see(0, false);
        x.see(1, false);
        c.asks(x, "27: the first that is not so", o -> o.looked(), 4);
        x.strength(1, 10);
        // Now 1 can't take it: it is nobody's.
        c.asks(x, "27: still", o -> o.looked(), 4);
        x.give(1, 1);
        c.asks(x, "27: 1 is OVER as it comes", o -> o.looked(), 0);
        x.see(-1, true);
        x.see(1, false);
        x.see(1, true);
        x.see(0, true);
        c.asks(x, "27: dropped at the BENCH", o -> o.looked(), -5);
        c.due("27: changes nothing", x.of(1, 6), 1);
        x.see(0, false);
        c.asks(x, "27: the last", o -> o.looked(), 3);
    }
}
