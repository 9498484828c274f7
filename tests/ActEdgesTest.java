/** The boundary cases of ACTS and THE TRACE, of KINDS, and of counts: "Terms" 3, promises 28 to 30 and 33. See SENTENCES.txt. */
public final class ActEdgesTest {
    private static final int LEAST = Integer.MIN_VALUE;
    private static final int MOST = Integer.MAX_VALUE;

    public static void main(String[] args) throws IllegalAccessException {
        Edges.run(ActEdgesTest.class);
    }

    /** PEOPLE up to number i, all of that KIND and v. */
    private static Lift of(int kind, int v, int i) {
        Lift x = new Lift();
        for (int p = 0; p <= i; p++) {
            x.person(kind, v, 0, 0);
        }
        return x;
    }

    private static void act(Check c, int kind, int v, int i, int act, int x, int due) {
        c.due("act " + act + " of KIND " + kind + ", v " + v + ", i " + i + ", x " + x, of(kind, v, i).act(i, act, x), due);
    }

    // ---- promise 28: act

    /** What each act of each KIND comes to, worked out by hand: x, i, v are ints that wrap. */
    private static int[] byHand(int kind, int x, int i, int v) {
        int plain = x + i - v;
        int full = 3 * x + i;
        int giving = -((x + i ^ i) - v);
        switch (kind) {
            case 0: return Check.of(x + i, plain, 2 * plain);
            case 1: return Check.of(full, full - v, 2 * (full - v));
            case 2: return Check.of(x + i, -plain, -2 * plain);
            case 3: return Check.of(x + i, plain, 2 * plain ^ 7);
            case 4: return Check.of(full, full - v, 2 * (full - 3 - v) + 6 + i);
            case 5: return Check.of(x + i ^ i, giving, 2 * giving);
            default: return Check.of(x + i, x + i, 2 * (x + i) ^ 7);
        }
    }

    static void xMayBeAnyInt(Check c) {
        int[] all = {LEAST, LEAST + 1, -(1 << 30), -1, 0, 1, (1 << 30) - 1, 1 << 30, MOST - 1, MOST};
        for (int kind = 0; kind < 7; kind++) {
            for (int x : all) {
                int[] due = byHand(kind, x, 3, 9);
                int[] first = byHand(kind, x, 0, 0);
                for (int act = 0; act < 3; act++) {
                    act(c, kind, 9, 3, act, x, due[act]);
                    act(c, kind, 0, 0, act, x, first[act]);
                }
            }
        }
    }


    static void liftsOfHolderGoesRound(Check c) {
        act(c, 0, 0, 0, 0, MOST, MOST);
        act(c, 0, 0, 1, 0, MOST, LEAST);
        act(c, 0, 0, 3, 0, MOST, LEAST + 2);
        act(c, 0, 0, 3, 0, MOST - 3, MOST);
        act(c, 0, 0, 0, 0, LEAST, LEAST);
        act(c, 0, 0, 3, 0, -3, 0);
    }

    static void dropsOfHolderGoesRound(Check c) {
        act(c, 0, 0, 0, 1, LEAST, LEAST);
        act(c, 0, 1, 0, 1, LEAST, MOST);
        act(c, 0, 9, 0, 1, LEAST, MOST - 8);
        act(c, 0, 9, 3, 1, LEAST + 6, LEAST);
        act(c, 0, 9, 3, 1, LEAST + 5, MOST);
    }

    static void tellsOfHolderGoesRound(Check c) {
        act(c, 0, 0, 0, 2, 1 << 30, LEAST);
        act(c, 0, 0, 0, 2, (1 << 30) - 1, MOST - 1);
        act(c, 0, 0, 0, 2, LEAST, 0);
        act(c, 0, 0, 0, 2, MOST, -2);
        act(c, 0, 1, 0, 2, -(1 << 30), MOST - 1);
    }

    static void liftsOfFullGoesRound(Check c) {
        act(c, 1, 0, 0, 0, MOST, MOST - 2);
        act(c, 1, 0, 3, 0, MOST, LEAST);
        act(c, 1, 0, 0, 0, LEAST, LEAST);
        act(c, 1, 0, 0, 0, 715827882, MOST - 1);
        act(c, 1, 0, 0, 0, 715827883, LEAST + 1);
    }

    static void dropsOfHandingOfTheLeastNumberStays(Check c) {
        act(c, 2, 0, 0, 1, LEAST, LEAST);
        act(c, 2, 0, 0, 1, MOST, LEAST + 1);
        act(c, 2, 0, 0, 1, LEAST + 1, MOST);
        act(c, 2, 0, 0, 1, 0, 0);
        act(c, 2, 9, 0, 1, 9, 0);
    }

    static void tellsOfLendingTurnsThreeBits(Check c) {
        act(c, 3, 0, 0, 2, 0, 7);
        act(c, 3, 0, 0, 2, MOST, -2 ^ 7);
        act(c, 3, 0, 0, 2, 1 << 30, LEAST + 7);
        act(c, 3, 1, 0, 2, 1, 7);
    }

    static void tellsOfDearestGoesRound(Check c) {
        // x - 1 is the most int: by 3 the most but two; twice that is -6; and 2 by 3 is 6.
        act(c, 4, 0, 0, 2, LEAST, 0);
        act(c, 4, 0, 0, 2, 1, 6);
        act(c, 4, 0, 0, 2, 0, 0);
        act(c, 4, 9, 3, 2, 1, (3 - 9) * 2 + 9);
    }

    static void liftsOfGivingTurnsTheBitsOfI(Check c) {
        act(c, 5, 0, 0, 0, MOST, MOST);
        act(c, 5, 0, 3, 0, MOST, (LEAST + 2) ^ 3);
        act(c, 5, 0, 1, 0, 0, 0);
        act(c, 5, 0, 3, 0, -3, 3);
    }

    static void dropsOfToldGoesRound(Check c) {
        act(c, 6, 9, 0, 1, LEAST, LEAST);
        act(c, 6, 9, 3, 1, MOST, LEAST + 2);
        act(c, 6, 0, 0, 1, MOST, MOST);
    }

    private static void bodies(Check c, int kind, int act, int... due) {
        Lift x = of(kind, 1, 0);
        x.act(0, act, 3);
        for (int i = 0; i < due.length; i++) {
            c.due("body " + i + " of act " + act + " of KIND " + kind, x.trace(i), due[i]);
        }
        c.due("bodies of act " + act + " of KIND " + kind, x.count(5), due.length);
    }

    static void aKindWithoutABodyHasThatOfTheNextAboveThatHasOne(Check c) {
        bodies(c, 2, 0, 1);
        bodies(c, 3, 0, 1);
        bodies(c, 6, 0, 1);
        bodies(c, 4, 0, 11, 1);
        bodies(c, 4, 1, 2, 11, 1);
        bodies(c, 1, 2, 3, 2, 11, 1);
        bodies(c, 5, 1, 21, 2, 51, 1);
        bodies(c, 5, 2, 3, 21, 2, 51, 1);
    }

    static void superIsFromTheKindAboveTheBodysOnAndNotTheirs(Check c) {
        bodies(c, 1, 0, 11, 1);
        bodies(c, 5, 0, 51, 1);
        bodies(c, 6, 1, 61, 2, 1);
        bodies(c, 6, 2, 31, 3, 61, 2, 1);
        bodies(c, 3, 2, 31, 3, 2, 1);
        bodies(c, 2, 1, 21, 2, 1);
        bodies(c, 4, 2, 41, 3, 2, 11, 1, 11, 1);
    }


    static void whatStandsInABodyIsDoneFromTheLeft(Check c) {
        int[] bodies = {41, 3, 2, 11, 1, 11, 1};
        Lift x = of(4, 0, 0);
        x.act(0, 2, 5);
        for (int i = 0; i < bodies.length; i++) {
            c.due("trace(" + i + ")", x.trace(i), bodies[i]);
        }
    }

    static void actOfNoSuchPersonIsNoughtAndThereIsNoTraceThen(Check c) {
        for (int p : Check.of(-1, 2, 4, LEAST, MOST)) {
            refused(c, "act(" + p + ", 0, 5)", p, 0);
        }
        Lift y = new Lift();
        c.asks(y, "nobody yet", o -> o.act(0, 0, 5), 0);
    }

    static void anotherActIsNoughtAndThereIsNoTraceThen(Check c) {
        for (int act : Check.of(-1, 3, 4, LEAST, MOST)) {
            refused(c, "act(0, " + act + ", 5)", 0, act);
            refused(c, "act(1, " + act + ", 5)", 1, act);
        }
    }

    /** Behind it all is as if there had been no act() at all. */
    private static void refused(Check c, String call, int person, int act) {
        Lift x = of(4, 3, 1);
        Lift without = x.again();
        x.act(0, 2, 5);
        c.due("bodies ahead of " + call, x.count(5), 7);
        c.due(call, x.act(person, act, 5), 0);
        c.due("bodies behind " + call, x.count(5), 0);
        c.due("trace(0) behind " + call, x.trace(0), OwnsLift.NONE);
        c.same("all there is behind " + call, x, without);
    }

    static void anActChangesNothingButTheTrace(Check c) {
        Lift x = of(6, 3, 1);
        Check.things(x, 5, 6);
        Check.owners(x, 0, 1);
        x.row(0, 1);
        x.act(1, 0, 9);
        Lift y = x.again();
        x.act(0, 2, 5);
        y.act(1, 2, 7);
        c.same("the same bodies", x, y);
    }

    // ---- promise 29: trace

    static void thereIsNoTraceAtFirst(Check c) {
        Lift x = of(4, 3, 0);
        c.refuses(x, "trace(0)", o -> o.trace(0), OwnsLift.NONE);
        c.due("bodies", x.count(5), 0);
    }

    static void traceOfTheFirstAndTheLastBody(Check c) {
        Lift x = of(4, 3, 0);
        x.act(0, 2, 5);
        c.due("bodies", x.count(5), 7);
        c.asks(x, "trace(0)", o -> o.trace(0), 41);
        c.asks(x, "trace(6)", o -> o.trace(6), 1);
    }

    static void traceBeyondIsNone(Check c) {
        Lift x = of(4, 3, 0);
        x.act(0, 2, 5);
        for (int i : Check.of(-1, 7, 8, 19, 20, 21, LEAST, MOST)) {
            c.refuses(x, "trace(" + i + ")", o -> o.trace(i), OwnsLift.NONE);
        }
    }

    static void aShorterTraceLeavesNothingOfALongerOne(Check c) {
        Lift x = of(4, 3, 0);
        x.act(0, 2, 5);
        x.act(0, 0, 5);
        c.due("bodies", x.count(5), 2);
        c.due("trace(0)", x.trace(0), 11);
        c.due("trace(1)", x.trace(1), 1);
        for (int i = 2; i < 8; i++) {
            c.due("trace(" + i + ")", x.trace(i), OwnsLift.NONE);
        }
    }

    /** Seven bodies are the most that run in one act(): 20 can't be passed, all are kept. */
    static void allBodiesThatRanAreKept(Check c) {
        for (int kind = 0; kind < 7; kind++) {
            for (int act = 0; act < 3; act++) {
                Lift x = of(kind, 1, 0);
                x.act(0, act, 3);
                int ran = x.count(5);
                c.due("a body at least", ran >= 1 ? 1 : 0, 1);
                c.due("seven at most", ran <= 7 ? 1 : 0, 1);
                c.due("the last is HOLDER's lifts", x.trace(ran - 1), 1);
                c.due("none behind it", x.trace(ran), OwnsLift.NONE);
            }
        }
    }

    // ---- promise 30: as

    static void asTheirKindAndThoseAbove(Check c) {
        int[] above = {-1, 0, 0, 0, 1, 2, 3};
        for (int kind = 0; kind < 7; kind++) {
            Lift x = of(kind, 9, 0);
            for (int k = 0; k < 7; k++) {
                int asked = k;
                boolean is = k == kind || k == 0 || k == above[kind];
                c.asks(x, "as(0, " + k + ") of KIND " + kind, o -> o.as(0, asked), is ? 9 : -6);
            }
        }
    }

    static void asAnotherKindIsMinusSix(Check c) {
        int[][] other = {{0, 1}, {0, 6}, {1, 4}, {2, 5}, {3, 6}, {4, 5}, {4, 2}, {5, 4}, {5, 1}, {6, 2}, {6, 4}};
        for (int[] o : other) {
            Lift x = of(o[0], 9, 0);
            c.refuses(x, "as(0, " + o[1] + ") of KIND " + o[0], y -> y.as(0, o[1]), -6);
        }
    }


    static void asTellsTheLeastAndTheMostV(Check c) {
        Lift x = new Lift();
        x.person(6, 0, 0, 0);
        x.person(6, 9, 0, 0);
        c.due("v 0", x.as(0, 3), 0);
        c.due("v 9", x.as(1, 3), 9);
    }

    static void asNoSuchPersonOrKindIsNone(Check c) {
        Lift x = of(0, 5, 1);
        for (int p : Check.of(-1, 2, 4, LEAST, MOST)) {
            c.refuses(x, "as(" + p + ", 0)", o -> o.as(p, 0), OwnsLift.NONE);
            c.refuses(x, "as(" + p + ", 6)", o -> o.as(p, 6), OwnsLift.NONE);
        }
        for (int k : Check.of(-1, 7, LEAST, MOST)) {
            c.refuses(x, "as(0, " + k + ")", o -> o.as(0, k), OwnsLift.NONE);
        }
        c.refuses(x, "as(1, 6)", o -> o.as(1, 6), -6);
        c.due("nobody yet", new Lift().as(0, 0), OwnsLift.NONE);
    }

    // ---- promise 33: count

    static void countAsksTheFirstToTheLastWhat(Check c) {
        Lift x = of(1, 5, 2);
        Check.things(x, 1, 2);
        Check.land(x, "ill 1 p=0");
        Check.feed(x, "like");
        see(x, 5);
        x.act(0, 1, 1);
        int[] due = {3, 2, 1, 5, 4, 3};
        for (int what = 0; what < 6; what++) {
            int w = what;
            c.asks(x, "count(" + what + ")", o -> o.count(w), due[what]);
        }
    }

    private static void see(Lift x, int times) {
        for (int n = 0; n < times; n++) {
            x.see(0, true);
        }
    }

    static void countOfBodiesIsOfTheLatestActAlone(Check c) {
        Lift x = of(4, 5, 1);
        c.due("none", x.count(5), 0);
        x.act(0, 2, 1);
        c.due("seven", x.count(5), 7);
        x.act(1, 0, 1);
        c.due("two", x.count(5), 2);
        x.act(0, 2, 1);
        x.act(0, 2, 1);
        c.due("seven and not more", x.count(5), 7);
        x.act(2, 0, 1);
        c.due("none", x.count(5), 0);
    }


    static void countOfAllThatIsFull(Check c) {
        Lift x = of(4, 5, 3);
        Check.things(x, 1, 2, 3, 4, 5, 6, 7);
        for (int n = 0; n < 5; n++) {
            Check.land(x, "ill 1 p=0");
        }
        Check.feed(x, "p".repeat(100));
        see(x, 12);
        x.act(0, 2, 1);
        int[] due = {4, 7, 5, 12, 100, 7};
        for (int what = 0; what < 6; what++) {
            c.due("count(" + what + ")", x.count(what), due[what]);
        }
        x.person(0, 0, 0, 0);
        x.thing(0);
        x.land();
        x.feed('p');
        see(x, 1);
        for (int what = 0; what < 6; what++) {
            c.due("count(" + what + ") behind FULL", x.count(what), due[what]);
        }
    }

    static void countOfAnotherWhatIsNone(Check c) {
        Lift x = of(1, 5, 2);
        for (int what : Check.of(-1, 6, LEAST, MOST)) {
            c.refuses(x, "count(" + what + ")", o -> o.count(what), OwnsLift.NONE);
        }
    }
}
