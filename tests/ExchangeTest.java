/** Promises 21 to 25: SWAP, REST, FAIR, HAD, ODDS. */
public final class ExchangeTest {
    private static final Check c = new Check();

    public static void main(String[] args) {
        swap();
        swapLoads();
        rest();
        fair();
        had();
        odds();
        c.end("ExchangeTest");
    }

    private static void owners(Lift x, int... owners) {
        for (int t = 0; t < owners.length; t++) {
            x.give(t, owners[t]);
        }
    }

    private static void swap() {
        Lift x = Check.holders(Check.of(50, 50, 50), 5, 5, 5, 5, 5);
        owners(x, 0, 0, 1, 1, 2);
        Check.land(x, "like 3 p=0&t>1;like 2 p=1&t=1;like 2 p=2&t=0;like 1 p=1&t=3");
        // 0 wants 2, 3, 4 for 0, 1; 1 wants 1 for 2 (not for 3: 3 of 2); 2 wants 0 for 4.
        c.asks(x, "21: swap(0)", o -> o.swap(0), 3);
        c.asks(x, "21: swap(1)", o -> o.swap(1), 4);
        x.give(4, -1);
        c.asks(x, "21: nobody swaps not", o -> o.swap(0), 2);
        c.asks(x, "21: swap(1)", o -> o.swap(1), 12);
        x.give(2, 0);
        c.asks(x, "21: swap(1)", o -> o.swap(1), 13);
        x.give(3, 0);
        c.asks(x, "21: none", o -> o.swap(0), 0);
        c.asks(x, "21: none", o -> o.swap(1), -5);
        c.refuses(x, "21: swap(2)", o -> o.swap(2), OwnsLift.NONE);
        c.refuses(x, "21: swap(-1)", o -> o.swap(-1), OwnsLift.NONE);
    }

    private static void swapLoads() {
        Lift x = Check.holders(Check.of(12, 10), 5, 7, 5);
        owners(x, 0, 1, 0);
        Check.land(x, "like 2 p=0&t=1;like 2 p=1&t<1");
        c.asks(x, "21: neither OVER", o -> o.swap(0), 1);
        c.asks(x, "21: the first", o -> o.swap(1), 1);
        x.strength(0, 11);
        c.asks(x, "21: 0 were OVER", o -> o.swap(0), 0);
        x.strength(0, 12);
        x.strength(1, 5);
        c.asks(x, "21: 1 is OVER, but not behind it", o -> o.swap(0), 1);
        x.strength(1, 4);
        c.asks(x, "21: 1 were OVER", o -> o.swap(0), 0);
        Lift y = Check.holders(Check.of(9, 9), 5, 5);
        owners(y, 0, 1);
        Check.land(y, "like 2 p=0&t=1");
        c.due("21: as much LIKE is not more", y.swap(0), 0);
        c.due("21: none", y.swap(1), -5);
    }

    private static void rest() {
        Lift x = Check.holders(Check.of(50, 50, 50), 5, 5, 5);
        owners(x, 0, 1, 2);
        c.asks(x, "22: none", o -> o.rest(), 0);
        Check.land(x, "like 3 p=0&t=2;like 2 p=0&t=1;like 3 p=1&t=0;like 2 p=2&t=1;like 9 p=1&t=2");
        // 0 and 1 swap 0 and 1; then 0 (3) wants 2 (4), 2 (1) wants 1 (3); then 1 has 0 (4), wants 2 (10), 0 wants not.
        c.asks(x, "22: one behind the other", o -> o.rest(), 2);
        for (int lesser = 2; lesser <= 3; lesser++) {
            Lift z = Check.holders(Check.of(50, 50), 5, 5, 5, 5, 5);
            owners(z, 0, 0, lesser == 3 ? 0 : 1, 1, 1);
            Check.land(z, "like 1 p=0&t>" + (lesser - 1) + ";like 1 p=1&t<" + lesser);
            c.asks(z, "22: as many as the one who has fewer", o -> o.rest(), 2);
        }
        Check.land(x, "like 5 p=0&t=2;like 5 p=2&t=0");
        c.asks(x, "22: one", o -> o.rest(), 1);
        c.due("22: OWNER", x.at(0, 1), 0);
    }

    private static void fair() {
        Lift x = Check.holders(Check.of(20, 20, 0), 10, 10, 5, 40);
        owners(x, 0, 0, 1, 2);
        Check.land(x, "like 3 p=0&t=0;like 1 p=1&t=1;like 2 p=1&t=2");
        // 0: 4 1 1; 1: 1 2 3. 0 with 0: 4 of 2, 1: 5 of 1; 0 with 0, 1: 5 of 1, 1: 3 of 3;
        // 0 with 0, 2: 5 of 1, 1: 2 of 4; 0 with 1, 2: 2 of 4.
        c.asks(x, "23: how many", o -> o.fair(0, 1, 0), 2);
        c.asks(x, "23: the least", o -> o.fair(0, 1, 1), 1);
        c.asks(x, "23: the other first", o -> o.fair(1, 0, 0), 2);
        c.asks(x, "23: the other first", o -> o.fair(1, 0, 1), 4);
        x.strength(1, 14);
        c.asks(x, "23: 1 can't lift 15", o -> o.fair(0, 1, 0), 1);
        c.asks(x, "23: 1 can't lift 15", o -> o.fair(0, 1, 1), 3);
        x.strength(0, 19);
        c.asks(x, "23: none", o -> o.fair(0, 1, 0), 0);
        c.asks(x, "23: none", o -> o.fair(0, 1, 1), -5);
        x.give(0, -1);
        x.give(1, -1);
        x.give(2, -1);
        c.asks(x, "23: of nothing", o -> o.fair(0, 1, 0), 1);
        c.asks(x, "23: of nothing", o -> o.fair(0, 1, 1), 0);
        c.refuses(x, "23: fair(3, 0, 0)", o -> o.fair(3, 0, 0), OwnsLift.NONE);
        c.refuses(x, "23: fair(0, 3, 0)", o -> o.fair(0, 3, 0), OwnsLift.NONE);
        c.refuses(x, "23: fair(-1, 0, 0)", o -> o.fair(-1, 0, 0), OwnsLift.NONE);
        c.refuses(x, "23: fair(0, -1, 0)", o -> o.fair(0, -1, 0), OwnsLift.NONE);
        c.refuses(x, "23: fair(0, 1, 2)", o -> o.fair(0, 1, 2), OwnsLift.NONE);
        c.refuses(x, "23: fair(0, 1, -1)", o -> o.fair(0, 1, -1), OwnsLift.NONE);
        c.refuses(x, "23: fair(0, 0, 0)", o -> o.fair(0, 0, 0), OwnsLift.BAD);
        c.refuses(x, "23: NONE ahead of BAD", o -> o.fair(0, 0, 2), OwnsLift.NONE);
        c.refuses(x, "23: NONE ahead of BAD", o -> o.fair(3, 3, 0), OwnsLift.NONE);
    }

    private static void had() {
        Lift x = Check.holders(Check.of(9), 5, 10, 15, 0, 5);
        x.give(1, 0);
        // 15: {2} {0,1} {1,4}, each with 3 or without
        c.asks(x, "24: had(15, 0)", o -> o.had(15, 0), 6);
        c.asks(x, "24: had(15, 1)", o -> o.had(15, 1), 3);
        c.asks(x, "24: had(0, 0)", o -> o.had(0, 0), 2);
        c.asks(x, "24: had(0, 1)", o -> o.had(0, 1), 0);
        c.asks(x, "24: had(35, 1)", o -> o.had(35, 1), 23);
        c.asks(x, "24: had(36, 0)", o -> o.had(36, 0), 0);
        c.asks(x, "24: had(36, 1)", o -> o.had(36, 1), -5);
        c.asks(x, "24: had(400, 1)", o -> o.had(400, 1), -5);
        c.refuses(x, "24: had(401, 0)", o -> o.had(401, 0), OwnsLift.BAD);
        c.refuses(x, "24: had(-1, 0)", o -> o.had(-1, 0), OwnsLift.BAD);
        c.refuses(x, "24: had(1, 2)", o -> o.had(1, 2), OwnsLift.NONE);
        c.refuses(x, "24: NONE ahead of BAD", o -> o.had(401, -1), OwnsLift.NONE);
        Lift y = Check.holders(Check.of(), 50, 50, 50, 50, 50, 50, 50);
        c.due("24: had(350, 1)", y.had(350, 1), 127);
        c.due("24: had(150, 0)", y.had(150, 0), 35);
    }

    private static void fraction(String what, Lift x, long above, long below) {
        c.asks(x, what + " above", o -> o.odds(0), above);
        c.asks(x, what + " below", o -> o.odds(1), below);
    }

    private static void odds() {
        Lift x = Check.holders(Check.of(11, 20), 5, 6, 11);
        Check.land(x, "ill 4 p=0;ill 5 p=1");
        fraction("25: nothing is anybody's", x, 1, 1);
        x.give(0, 0);
        fraction("25: the half, cut", x, 1, 1);
        x.give(0, -1);
        x.give(1, 0);
        fraction("25: more than the half", x, 3, 5);
        x.give(2, 1);
        fraction("25: both", x, 3, 10);
        x.give(0, 0);
        fraction("25: all that 0 lifts", x, 3, 10);
        x.strength(0, 10);
        fraction("25: OVER", x, 0, 1);
        x.strength(0, 11);
        Check.land(x, "ill 99 p=0");
        fraction("25: surely ill", x, 0, 1);
        x.give(1, -1);
        fraction("25: surely ill, lifts it", x, 1, 1);
        c.refuses(x, "25: odds(2)", o -> o.odds(2), OwnsLift.NO);
        c.refuses(x, "25: odds(-1)", o -> o.odds(-1), OwnsLift.NO);
    }
}
