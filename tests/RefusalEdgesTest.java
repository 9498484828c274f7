import java.util.function.ToLongFunction;

/** "Terms" 3 and 4: what is asked changes nothing, what is refused changes nothing, and of several refusals the first is told. */
public final class RefusalEdgesTest {
    private static final int LEAST = Integer.MIN_VALUE;
    private static final int MOST = Integer.MAX_VALUE;

    public static void main(String[] args) throws IllegalAccessException {
        Edges.run(RefusalEdgesTest.class);
    }

    /** Some are OVER, some SWAPS serve, some are ILL; a LAND stands on THE TAPE, an IMAGE was taken, an act() ran. */
    private static Lift world() {
        Lift x = new Lift();
        x.person(6, 2, 12, 9);
        x.person(2, 3, 20, 30);
        x.person(5, 4, 9, 99);
        Check.things(x, 8, 7, 0, 12, 5);
        x.row(0, 3);
        x.row(0, 0);
        Check.land(x, "like 4 p=0&t=1;like 5 p=1&t=4;like 4 p=2&t=1;ill 3 p<2;lift 2 k=5;wear 1 t=0");
        x.see(0, false);
        x.see(1, true);
        x.see(2, false);
        x.image();
        Check.owners(x, 0, 1, 1, 0, 2);
        Check.feed(x, "like 7 p=2");
        x.act(1, 1, 3);
        return x;
    }

    private static void asks(Check c, Lift x, String call, ToLongFunction<Lift> asked) {
        c.refuses(x, call, asked, asked.applyAsLong(x.again()));
    }

    static void whoShouldOwnWhatIsAskedAndChangesNothing(Check c) {
        Lift x = world();
        for (int n = -1; n < 5; n++) {
            int t = n;
            asks(c, x, "best", o -> o.best(t));
        }
        asks(c, x, "most", o -> o.most());
        asks(c, x, "moved", o -> o.moved());
        for (int n = 0; n < 3; n++) {
            int p = n;
            asks(c, x, "train", o -> o.train(p));
            for (int w = 0; w < 2; w++) {
                int what = w;
                asks(c, x, "gives", o -> o.gives(p, what));
                asks(c, x, "parts", o -> o.parts(p, what));
            }
        }
    }

    static void exchangesAndPartingsAreAskedAndChangeNothing(Check c) {
        Lift x = world();
        asks(c, x, "rest", o -> o.rest());
        for (int w = 0; w < 2; w++) {
            int what = w;
            asks(c, x, "swap", o -> o.swap(what));
            asks(c, x, "odds", o -> o.odds(what));
            asks(c, x, "had", o -> o.had(15, what));
            for (int n = 0; n < 3; n++) {
                int p = n;
                asks(c, x, "fair", o -> o.fair(p, (p + 1) % 3, what));
            }
        }
        c.due("a SWAP serves", x.swap(1), 14);
        c.due("some THINGS are dropped", x.looked(), 2);
    }

    static void lookedAtAndTheTraceAndKindsAreAskedAndChangeNothing(Check c) {
        Lift x = world();
        asks(c, x, "looked", o -> o.looked());
        for (int n = 0; n < 3; n++) {
            int i = n;
            asks(c, x, "trace", o -> o.trace(i));
            asks(c, x, "as", o -> o.as(i, 2));
        }
        for (int w = 0; w < 10; w++) {
            int what = w;
            asks(c, x, "of", o -> o.of(0, what));
            asks(c, x, "count", o -> o.count(what % 6));
        }
        asks(c, x, "like", o -> o.like(0, 1));
        asks(c, x, "at", o -> o.at(0, 0));
        asks(c, x, "when", o -> o.when());
    }

    private static final int ASKED = 16;

    /** Something asked, by a number. */
    private static long ask(Lift x, int n) {
        switch (n) {
            case 0: return x.best(-1);
            case 1: return x.best(1);
            case 2: return x.most();
            case 3: return x.train(0);
            case 4: return x.train(2);
            case 5: return x.moved();
            case 6: return x.gives(0, 0);
            case 7: return x.gives(0, 1);
            case 8: return x.parts(0, 0);
            case 9: return x.parts(0, 1);
            case 10: return x.swap(1);
            case 11: return x.rest();
            case 12: return x.fair(1, 2, 1);
            case 13: return x.had(15, 0);
            case 14: return x.odds(0);
            default: return x.looked();
        }
    }

    static void whatWasAskedBeforeIsNothingToWhatIsAsked(Check c) {
        Lift x = world();
        x.strength(1, 3);
        for (int n = 0; n < ASKED; n++) {
            long due = ask(x.again(), n);
            for (int before = 0; before < ASKED; before++) {
                Lift y = x.again();
                ask(y, before);
                c.due("asked " + n + " behind " + before, ask(y, n), due);
            }
        }
        Lift z = Check.holders(Check.of(5, 9), 5, 5, 9, 9, 9);
        Check.owners(z, 1, 0);
        c.due("MOVED", z.moved(), 0);
        c.due("MOST behind MOVED", z.most(), 2);
        c.due("MOVED behind MOST", z.moved(), 0);
        Check.owners(z, 0, 0);
        c.due("MOVED", z.moved(), 1);
        c.due("BEST behind MOVED", z.best(-1), 2);
        c.due("MOVED behind BEST", z.moved(), 1);
    }


    static void theWorldOfTheseTestsCanChange(Check c) {
        Lift x = world();
        Lift y = x.again();
        y.bench(0);
        c.differ("a BENCH", x, y);
        Lift z = x.again();
        z.land();
        c.differ("a LAND", x, z);
        Lift v = x.again();
        v.image();
        c.differ("an IMAGE", x, v);
        Lift w = x.again();
        w.act(0, 0, 0);
        c.differ("an act()", x, w);
    }

    static void noneOfTheFirstAndTheFarthestNumbers(Check c) {
        Lift x = world();
        for (int n : Check.of(LEAST, -1, 3, MOST)) {
            c.refuses(x, "of", o -> o.of(n, 0), OwnsLift.NONE);
            c.refuses(x, "strength", o -> o.strength(n, 0), OwnsLift.NONE);
            c.refuses(x, "row", o -> o.row(n, 0), OwnsLift.NONE);
            c.refuses(x, "like", o -> o.like(n, 0), OwnsLift.NONE);
            c.refuses(x, "bench", o -> o.bench(n), OwnsLift.NONE);
            c.refuses(x, "train", o -> o.train(n), OwnsLift.NONE);
            c.refuses(x, "gives", o -> o.gives(n, 0), OwnsLift.NONE);
            c.refuses(x, "parts", o -> o.parts(n, 0), OwnsLift.NO);
            c.refuses(x, "fair", o -> o.fair(n, 1, 0), OwnsLift.NONE);
            c.refuses(x, "as", o -> o.as(n, 0), OwnsLift.NONE);
            c.refuses(x, "trace", o -> o.trace(n), OwnsLift.NONE);
        }
        for (int n : Check.of(LEAST, 3, MOST)) {
            c.refuses(x, "see", o -> o.see(n, true), OwnsLift.NONE);
            c.refuses(x, "give", o -> o.give(0, n), -1001);
        }
    }

    static void ofSeveralRefusalsTheFirstIsTold(Check c) {
        Lift x = world();
        c.refuses(x, "person: NONE ahead of BAD", o -> o.person(7, 10, 100, 100), OwnsLift.NONE);
        c.refuses(x, "strength: NONE ahead of BAD", o -> o.strength(3, 100), OwnsLift.NONE);
        c.refuses(x, "row: NONE ahead of STATE", o -> o.row(1, 5), OwnsLift.NONE);
        c.refuses(x, "fair: NONE ahead of BAD", o -> o.fair(1, 1, 2), OwnsLift.NONE);
        c.refuses(x, "had: NONE ahead of BAD", o -> o.had(401, 2), OwnsLift.NONE);
        c.refuses(x, "as: NONE ahead of another KIND", o -> o.as(1, 7), OwnsLift.NONE);
        x.person(0, 0, 0, 0);
        c.refuses(x, "person: NONE ahead of FULL", o -> o.person(7, 0, 0, 0), OwnsLift.NONE);
        c.refuses(x, "person: BAD ahead of FULL", o -> o.person(0, 0, 0, 100), OwnsLift.BAD);
        c.refuses(x, "person: FULL", o -> o.person(0, 0, 0, 99), OwnsLift.FULL);
    }

    static void ofSeveralRefusalsAheadOfFull(Check c) {
        Lift x = world();
        Check.things(x, 1, 1);
        c.refuses(x, "thing: BAD ahead of FULL", o -> o.thing(51), OwnsLift.BAD);
        c.refuses(x, "thing: FULL", o -> o.thing(50), OwnsLift.FULL);
        for (int n = 3; n <= 7; n++) {
            x.row(0, n - 1);
        }
        c.refuses(x, "row: NONE ahead of FULL", o -> o.row(0, 7), OwnsLift.NONE);
        c.refuses(x, "row: FULL", o -> o.row(0, 6), OwnsLift.FULL);
        for (int n = 4; n <= 12; n++) {
            x.see(0, true);
        }
        c.refuses(x, "see: NONE ahead of FULL", o -> o.see(3, true), OwnsLift.NONE);
        c.refuses(x, "see: FULL", o -> o.see(2, true), OwnsLift.FULL);
        for (int n = 1; n <= 5; n++) {
            Check.land(x, n == 1 ? "" : "ill 1 p=0");
        }
        Check.feed(x, "#".repeat(100));
        c.refuses(x, "feed: BAD ahead of FULL", o -> o.feed(128), OwnsLift.BAD);
        c.refuses(x, "feed: FULL", o -> o.feed(127), OwnsLift.FULL);
        c.refuses(x, "land: FULL ahead of a FAULT", o -> o.land(), OwnsLift.FULL);
    }

    static void badOfEachNumberThatIsNotAsTold(Check c) {
        Lift x = world();
        for (int n : Check.of(LEAST, -1, MOST)) {
            c.refuses(x, "feed", o -> o.feed(n), OwnsLift.BAD);
            c.refuses(x, "person by v", o -> o.person(0, n, 0, 0), OwnsLift.BAD);
            c.refuses(x, "person by STRENGTH", o -> o.person(0, 0, n, 0), OwnsLift.BAD);
            c.refuses(x, "person by AGE", o -> o.person(0, 0, 0, n), OwnsLift.BAD);
            c.refuses(x, "strength", o -> o.strength(0, n), OwnsLift.BAD);
            c.refuses(x, "thing", o -> o.thing(n), OwnsLift.BAD);
            c.refuses(x, "had", o -> o.had(n, 0), OwnsLift.BAD);
        }
        c.refuses(x, "fair", o -> o.fair(2, 2, 0), OwnsLift.BAD);
    }

    static void stateOfEachCallThatTellsIt(Check c) {
        Lift x = new Lift();
        x.person(3, 0, 0, 0);
        x.person(6, 0, 0, 0);
        x.thing(50);
        c.refuses(x, "row of another KIND", o -> o.row(0, 0), OwnsLift.STATE);
        c.refuses(x, "undo() without an IMAGE", o -> o.undo(), OwnsLift.STATE);
        for (int n = 1; n <= 99; n++) {
            c.due("year()", x.year(), n);
        }
        c.refuses(x, "year() of 99", o -> o.year(), OwnsLift.STATE);
    }

    static void fullOfEachCallThatTellsIt(Check c) {
        Lift x = world();
        x.person(0, 0, 0, 0);
        Check.things(x, 1, 1);
        while (x.count(3) < 12) {
            x.see(0, true);
        }
        while (x.of(0, 9) < 7) {
            x.row(0, 1);
        }
        Check.land(x, "#");
        while (x.count(2) < 5) {
            Check.land(x, "ill 1 p=0");
        }
        Check.feed(x, "=".repeat(100));
        c.refuses(x, "person", o -> o.person(0, 0, 0, 0), OwnsLift.FULL);
        c.refuses(x, "thing", o -> o.thing(0), OwnsLift.FULL);
        c.refuses(x, "see", o -> o.see(0, true), OwnsLift.FULL);
        c.refuses(x, "row", o -> o.row(0, 1), OwnsLift.FULL);
        c.refuses(x, "land", o -> o.land(), OwnsLift.FULL);
        c.refuses(x, "feed", o -> o.feed('='), OwnsLift.FULL);
    }

    static void manyRefusalsOneBehindTheOtherChangeNothing(Check c) {
        Lift x = world();
        Lift before = x.again();
        for (int n : Check.of(LEAST, -2, 9, 400, MOST)) {
            x.feed(n == 9 ? 128 : n < 0 ? n : 200);
            x.person(n, 0, 0, 0);
            x.person(0, 0, 0, n < 0 ? n : 100);
            x.of(n, 0);
            x.of(0, n < 0 ? n : 10);
            x.strength(n, 5);
            x.strength(0, n < 0 ? n : 100);
            x.row(n, 0);
            x.row(1, 0);
            x.row(0, n);
            x.thing(n < 0 ? n : 51);
            x.at(n, 0);
            x.give(n, 0);
            x.give(0, n);
            x.like(n, 0);
            x.bench(n);
            x.best(n);
            x.train(n);
            x.gives(0, n);
            x.parts(0, n);
            x.swap(n);
            x.fair(0, n, 0);
            x.fair(1, 1, 0);
            x.had(0, n);
            x.had(n < 0 ? n : 401, 0);
            x.odds(n);
            x.see(n, true);
            x.trace(n);
            x.as(n, 0);
            x.as(0, n);
            x.count(n);
        }
        c.same("all there is", x, before);
    }
}
