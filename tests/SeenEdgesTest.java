/** The boundary cases of what was SEEN: "Terms" 3, promises 26 and 27. See SENTENCES.txt. */
public final class SeenEdgesTest {
    private static final int LEAST = Integer.MIN_VALUE;
    private static final int MOST = Integer.MAX_VALUE;

    public static void main(String[] args) throws IllegalAccessException {
        Edges.run(SeenEdgesTest.class);
    }

    /** 0 lifts 5 and has 5; 1 lifts 5 and has 6 (2 and 4); 2 lifts 5 and has nothing. */
    private static Lift three() {
        Lift x = Check.holders(Check.of(5, 5, 5), 5, 2, 4);
        Check.owners(x, 0, 1, 1);
        return x;
    }

    private static void see(Lift x, int person, int... could) {
        for (int one : could) {
            x.see(person, one == 1);
        }
    }

    // ---- promise 26: see

    static void seenIsEmptyAtFirstAndTakesTwelve(Check c) {
        Lift x = three();
        c.due("none at first", x.count(3), 0);
        for (int n = 1; n <= 12; n++) {
            c.due("see", x.see(n % 3, n % 2 == 0), n);
            c.due("count(3)", x.count(3), n);
        }
    }

    static void seeTellsHowManyThereAre(Check c) {
        Lift x = three();
        c.due("the first", x.see(0, true), 1);
        c.due("the same again", x.see(0, true), 2);
        c.due("the same, told otherwise", x.see(0, false), 3);
        c.due("another one", x.see(2, false), 4);
        c.due("none then", x.see(-1, true), 0);
        c.due("the first", x.see(1, true), 1);
    }


    private static Lift twelve() {
        Lift x = three();
        see(x, 0, 1, 1, 1, 1, 1, 1, 1, 1, 1, 1, 1, 1);
        return x;
    }

    static void aThirteenthIsFull(Check c) {
        Lift x = twelve();
        c.refuses(x, "see(0, true)", o -> o.see(0, true), OwnsLift.FULL);
        c.refuses(x, "see(0, false)", o -> o.see(0, false), OwnsLift.FULL);
        c.refuses(x, "see(2, false)", o -> o.see(2, false), OwnsLift.FULL);
        c.due("looked()", x.looked(), -5);
        c.due("count(3)", x.count(3), 12);
    }

    static void nobodyMeansNoneThenWhateverTheOtherIs(Check c) {
        for (int could = 0; could < 2; could++) {
            boolean other = could == 1;
            Lift x = twelve();
            c.due("see(-1) of twelve", x.see(-1, other), 0);
            c.due("count(3)", x.count(3), 0);
            c.due("looked()", x.looked(), -5);
            c.asks(x, "see(-1) of none", o -> o.see(-1, other), 0);
            for (int n = 1; n <= 12; n++) {
                c.due("anew", x.see(2, false), n);
            }
            c.due("looked()", x.looked(), 0);
            c.due("see(-1) of a new object", new Lift().see(-1, other), 0);
        }
    }

    static void seeNoSuchPersonIsNone(Check c) {
        Lift x = three();
        see(x, 0, 1);
        for (int p : Check.of(-2, -5, 3, 4, LEAST, MOST)) {
            c.refuses(x, "see(" + p + ", true)", o -> o.see(p, true), OwnsLift.NONE);
            c.refuses(x, "see(" + p + ", false)", o -> o.see(p, false), OwnsLift.NONE);
        }
        c.due("the last one", x.see(2, true), 2);
        c.due("nobody yet", new Lift().see(0, true), OwnsLift.NONE);
    }

    static void seeNamesNoneAheadOfFull(Check c) {
        Lift x = twelve();
        c.refuses(x, "see(3, true)", o -> o.see(3, true), OwnsLift.NONE);
        c.refuses(x, "see(-2, true)", o -> o.see(-2, true), OwnsLift.NONE);
    }

    // ---- promise 27: looked

    static void lookedAtNoneIsNone(Check c) {
        c.asks(new Lift(), "nobody", o -> o.looked(), -5);
        c.asks(three(), "none SEEN", o -> o.looked(), -5);
    }

    static void lookedAtWhatIsAllSoIsNone(Check c) {
        Lift x = three();
        see(x, 0, 1, 1, 1);
        see(x, 1, 0, 1, 1);
        see(x, 2, 1, 1, 1, 1, 1, 1);
        c.asks(x, "twelve", o -> o.looked(), -5);
    }

    static void lookedAtTellsTheFirstAndTheLastPlace(Check c) {
        Lift x = three();
        see(x, 0, 0);
        c.asks(x, "one, at 0", o -> o.looked(), 0);
        Lift y = three();
        see(y, 2, 1, 1, 1, 1, 1, 1, 1, 1, 1, 1, 1, 0);
        c.asks(y, "twelve, at 11", o -> o.looked(), 11);
    }

    static void lookedTellsAPlaceFromNoughtAndNotWho(Check c) {
        for (int at = 0; at < 12; at++) {
            Lift x = three();
            for (int n = 0; n < 12; n++) {
                x.see(2, n != at);
            }
            c.asks(x, "2 at " + at, o -> o.looked(), at);
        }
    }


    static void lookedAtTellsTheFirstOfSeveral(Check c) {
        Lift x = three();
        see(x, 2, 1, 1, 0, 1, 0, 0);
        c.asks(x, "at 2, 4 and 5", o -> o.looked(), 2);
        Lift y = three();
        see(y, 2, 0, 0);
        c.asks(y, "at 0 and 1", o -> o.looked(), 0);
    }

    static void itIsNotSoBothWays(Check c) {
        Lift x = three();
        see(x, 1, 1);
        c.asks(x, "6 of 5, told that all is lifted", o -> o.looked(), 0);
        Lift y = three();
        see(y, 0, 0);
        c.asks(y, "5 of 5, told that not", o -> o.looked(), 0);
        y.strength(0, 4);
        c.asks(y, "5 of 4, told that not", o -> o.looked(), -5);
        Lift z = three();
        see(z, 2, 0);
        c.asks(z, "nothing of 5, told that not", o -> o.looked(), 0);
    }

    static void eachBenchIsGoneThroughBeforeTheNextOneComes(Check c) {
        Lift x = three();
        see(x, 1, 0, 1);
        c.asks(x, "OVER, then not", o -> o.looked(), -5);
        Lift y = three();
        see(y, 1, 0, 0);
        c.asks(y, "OVER once only", o -> o.looked(), 1);
        Lift z = new Lift();
        z.person(2, 0, 5, 0);
        z.person(0, 0, 5, 0);
        z.person(2, 0, 0, 0);
        Check.things(z, 5, 5, 5);
        Check.owners(z, 0, 0, 2);
        see(z, 0, 0);
        see(z, 2, 0);
        see(z, 1, 1);
        see(z, 0, 1);
        see(z, 2, 1);
        c.asks(z, "what is handed on is lifted", o -> o.looked(), -5);
        Check.owners(z, 0, 0, 1);
        see(z, 2, 0);
        c.asks(z, "the last one has nothing now", o -> o.looked(), 1);
        c.due("all stays", z.of(0, 8), 3);
    }

    static void lookedAtIsAskedOfWhatIsNow(Check c) {
        Lift x = three();
        see(x, 0, 1, 1);
        c.due("5 of 5", x.looked(), -5);
        x.strength(0, 4);
        c.due("5 of 4", x.looked(), 0);
        x.bench(0);
        c.due("dropped", x.looked(), -5);
    }
}
