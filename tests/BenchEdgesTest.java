/** The boundary cases of BENCHES and YEARS: "Terms" 2, promises 13 and 14. See SENTENCES.txt. */
public final class BenchEdgesTest {
    private static final int LEAST = Integer.MIN_VALUE;
    private static final int MOST = Integer.MAX_VALUE;

    public static void main(String[] args) throws IllegalAccessException {
        Edges.run(BenchEdgesTest.class);
    }

    private static void owners(Check c, String what, Lift x, int... want) {
        for (int t = 0; t < want.length; t++) {
            c.due(what + ", OWNER of " + t, x.at(t, 1), want[t]);
        }
    }

    /** One of that KIND (v 3) who owns THINGS of those WEIGHTS, under that LAND; a HOLDER of STRENGTH 99 comes behind. */
    private static Lift one(int kind, int strength, String land, int... weights) {
        Lift x = new Lift();
        x.person(kind, 3, strength, 0);
        x.person(0, 0, 99, 0);
        Check.land(x, land);
        for (int t = 0; t < weights.length; t++) {
            x.thing(weights[t]);
            x.give(t, 0);
        }
        return x;
    }

    /** The STRENGTH by which one of that KIND (v 3) lifts so much. */
    private static int toLift(int kind, int lifts) {
        return kind == 3 || kind == 6 ? lifts - 3 : lifts;
    }

    /** Whose it is behind a BENCH of 0: the next one's (1) of HANDING and GIVING, else nobody's. */
    private static int heir(int kind) {
        return kind == 2 || kind == 5 ? 1 : -5;
    }

    // ---- how long

    static void whoIsNotOverDropsNothing(Check c) {
        for (int kind = 0; kind < 7; kind++) {
            Lift x = one(kind, toLift(kind, 15), "like 9 t=1", 5, 7, 3);
            c.asks(x, "KIND " + kind + ", 15 of 15", o -> o.bench(0), 0);
            x.strength(0, toLift(kind, 16));
            c.asks(x, "KIND " + kind + ", 15 of 16", o -> o.bench(0), 0);
        }
    }

    static void whoOwnsNothingDropsNothing(Check c) {
        for (int kind = 0; kind < 7; kind++) {
            Lift x = one(kind, 0, "like 9 t=1");
            x.thing(50);
            c.asks(x, "KIND " + kind, o -> o.bench(0), 0);
            x.give(0, 1);
            c.asks(x, "KIND " + kind, o -> o.bench(0), 0);
        }
    }

    static void whatWeighsNothingNeedsNoStrength(Check c) {
        for (int kind : Check.of(0, 1, 2, 4, 5)) {
            Lift x = one(kind, 0, "like 9 t=1", 0, 0);
            c.asks(x, "KIND " + kind, o -> o.bench(0), 0);
        }
    }

    static void overByOneDropsOneAndNoMore(Check c) {
        for (int kind = 0; kind < 7; kind++) {
            Lift x = one(kind, toLift(kind, 14), "like 9 p=9", 5, 5, 5);
            c.due("KIND " + kind, x.bench(0), 1);
            owners(c, "KIND " + kind, x, heir(kind), 0, 0);
            c.asks(x, "KIND " + kind + ", again", o -> o.bench(0), 0);
        }
    }

    static void dropsTillTheLoadIsAsMuchAsLifts(Check c) {
        for (int kind = 0; kind < 7; kind++) {
            Lift x = one(kind, toLift(kind, 10), "like 9 p=9", 5, 5, 5, 5);
            c.due("KIND " + kind + ": 20 of 10", x.bench(0), 2);
            owners(c, "KIND " + kind, x, heir(kind), heir(kind), 0, 0);
            Lift y = one(kind, toLift(kind, 9), "like 9 p=9", 5, 5, 5, 5);
            c.due("KIND " + kind + ": 20 of 9", y.bench(0), 3);
        }
    }

    static void allSevenGoWhenNothingCanBeLifted(Check c) {
        for (int kind : Check.of(0, 1, 2, 4, 5)) {
            Lift x = one(kind, 0, "like 9 p=9", 1, 2, 3, 4, 5, 6, 7);
            c.due("KIND " + kind, x.bench(0), 7);
            c.due("KIND " + kind + ", what is left", x.of(0, 8), 0);
            c.due("KIND " + kind + ", the other's", x.of(1, 8), heir(kind) == 1 ? 127 : 0);
        }
        for (int kind : Check.of(3, 6)) {
            Lift x = one(kind, 0, "like 9 p=9", 4, 4, 4, 4, 4, 4, 4);
            c.due("KIND " + kind, x.bench(0), 7);
            c.due("KIND " + kind + ", what is left", x.of(0, 8), 0);
        }
    }

    static void ofSeveralTheLeastNumberIsDropped(Check c) {
        for (int kind = 0; kind < 7; kind++) {
            Lift x = one(kind, toLift(kind, 29), "like 9 p=9", 10, 10, 10);
            c.due("KIND " + kind, x.bench(0), 1);
            owners(c, "KIND " + kind, x, heir(kind), 0, 0);
        }
    }

    static void ofSeveralTheLeastNumberThatIsTheirs(Check c) {
        for (int kind = 0; kind < 7; kind++) {
            Lift x = one(kind, toLift(kind, 19), "like 9 p=9", 10, 10, 10, 10);
            Check.owners(x, 1, -1);
            c.due("KIND " + kind, x.bench(0), 1);
            owners(c, "KIND " + kind, x, 1, -5, heir(kind), 0);
        }
    }

    static void benchOfNoSuchPersonIsNone(Check c) {
        Lift x = one(0, 0, "like 9 p=9", 5, 5);
        for (int p : Check.of(-1, 2, 4, LEAST, MOST)) {
            c.refuses(x, "bench(" + p + ")", o -> o.bench(p), OwnsLift.NONE);
        }
        c.asks(x, "the last one", o -> o.bench(1), 0);
        c.due("nobody yet", new Lift().bench(0), OwnsLift.NONE);
    }

    static void aBenchChangesNothingButOwners(Check c) {
        for (int kind = 0; kind < 7; kind++) {
            Lift x = one(kind, toLift(kind, 14), "like 9 p=9", 5, 5, 5);
            x.see(0, true);
            x.image();
            Lift y = x.again();
            x.bench(0);
            y.give(0, heir(kind) == 1 ? 1 : -1);
            c.same("KIND " + kind, x, y);
        }
    }

    // ---- which THING

    static void holderAndLendingDropTheLeastLikeFirst(Check c) {
        for (int kind : Check.of(0, 3)) {
            String land = "like 4 t=0;like 1 t=1;like 1 t=3;like 2 t=2";
            Lift x = one(kind, toLift(kind, 39), land, 10, 10, 10, 10);
            c.due("KIND " + kind, x.bench(0), 1);
            owners(c, "KIND " + kind + ": the first of the two least", x, 0, -5, 0, 0);
            x.strength(0, toLift(kind, 19));
            c.due("KIND " + kind, x.bench(0), 2);
            owners(c, "KIND " + kind + ": the other, then the next", x, 0, -5, -5, -5);
        }
    }

    static void theLeastLikeMayWeighNothing(Check c) {
        Lift x = one(0, 10, "like 4 t=0;like 2 t=2", 10, 0, 1);
        c.due("what weighs nothing goes, and then the next", x.bench(0), 2);
        owners(c, "HOLDER", x, 0, -5, -5);
    }

    static void fullDropsTheMostWeightFirst(Check c) {
        Lift x = one(1, 59, "like 9 t=1", 9, 20, 11, 20);
        c.due("FULL", x.bench(0), 1);
        owners(c, "FULL: the first of the two heaviest, liked or not", x, 0, -5, 0, 0);
        x.strength(0, 10);
        c.due("FULL", x.bench(0), 2);
        owners(c, "FULL: the other, then the next", x, 0, -5, -5, -5);
        Lift y = one(1, 49, "like 9 p=9", 0, 50, 0);
        c.due("FULL", y.bench(0), 1);
        owners(c, "FULL: not what weighs nothing", y, 0, -5, 0);
    }

    static void dearestDropsWhatWeighsNothingLast(Check c) {
        Lift x = one(4, 4, "like 50 t=2;like 90 t=3", 0, 0, 5, 50);
        c.due("DEAREST", x.bench(0), 2);
        owners(c, "DEAREST", x, 0, 0, -5, -5);
        Lift y = one(4, 0, "like 99 t=3", 0, 0, 0, 1);
        c.due("DEAREST", y.bench(0), 1);
        owners(c, "DEAREST", y, 0, 0, 0, -5);
    }

    static void dearestOfAsMuchLikeForTheWeightTheLeastNumber(Check c) {
        // 2 for 4, 1 for 2, 3 for 6, and 4 for 7
        Lift x = one(4, 18, "like 1 t=0;like 2 t=2;like 3 t=3", 4, 2, 6, 7);
        c.due("DEAREST", x.bench(0), 1);
        owners(c, "DEAREST", x, -5, 0, 0, 0);
        x.strength(0, 14);
        c.due("DEAREST", x.bench(0), 1);
        owners(c, "DEAREST", x, -5, -5, 0, 0);
        x.strength(0, 12);
        c.due("DEAREST", x.bench(0), 1);
        owners(c, "DEAREST", x, -5, -5, -5, 0);
    }

    static void dearestDropsWhatWeighsOneByItsLike(Check c) {
        // 1 for 1 is less than 50 for 5; 9 for 1 is more than 5 for 5.
        Lift x = one(4, 5, "like 49 t=1", 1, 5);
        c.due("DEAREST", x.bench(0), 1);
        owners(c, "DEAREST", x, -5, 0);
        Lift y = one(4, 5, "like 49 t=0", 5, 1);
        c.due("DEAREST", y.bench(0), 1);
        owners(c, "DEAREST", y, 0, -5);
        Lift z = one(4, 5, "like 8 t=0;like 4 t=1", 1, 5);
        c.due("DEAREST", z.bench(0), 1);
        owners(c, "DEAREST", z, 0, -5);
    }


    static void dearestIsNotCut(Check c) {
        // 7 for 50 is less than 1 for 7, and 2 for 15 less than both.
        Lift x = one(4, 71, "like 6 t=1;like 1 t=2", 7, 50, 15);
        c.due("DEAREST", x.bench(0), 1);
        owners(c, "DEAREST", x, 0, 0, -5);
        x.strength(0, 56);
        c.due("DEAREST", x.bench(0), 1);
        owners(c, "DEAREST", x, 0, -5, -5);
        // 793 for 49 is less than 792 for 48, more than 793 for 50.
        Lift y = one(4, 96, "like 99 t<3;like 99 t<3;like 99 t<3;like 99 t<3;like 99 t<3;like 99 t<3;like 99 t<3;like 99 t<3", 49, 50);
        c.due("DEAREST", y.bench(0), 1);
        owners(c, "DEAREST", y, 0, -5);
    }

    private static final String TWO_AND_TWO = "like 4 t=0;like 1 t=1;like 1 t=3;like 4 t=2";

    static void handingDropsTheLeastLikeFirst(Check c) {
        Lift x = one(2, 39, TWO_AND_TWO, 10, 10, 10, 10);
        c.due("HANDING", x.bench(0), 1);
        owners(c, "HANDING: the first of the two least", x, 0, 1, 0, 0);
        x.strength(0, 30);
        c.due("HANDING", x.bench(0), 0);
        x.strength(0, 29);
        c.due("HANDING", x.bench(0), 1);
        owners(c, "HANDING: the other", x, 0, 1, 0, 1);
        Lift y = one(2, 10, "like 4 t=0;like 2 t=2", 10, 0, 1);
        c.due("HANDING hands on what weighs nothing, too", y.bench(0), 2);
        owners(c, "HANDING", y, 0, 1, 1);
    }

    static void givingDropsTheMostLikeFirst(Check c) {
        Lift x = one(5, 39, TWO_AND_TWO, 10, 10, 10, 10);
        c.due("GIVING", x.bench(0), 1);
        owners(c, "GIVING: the first of the two most", x, 1, 0, 0, 0);
        x.strength(0, 20);
        c.due("GIVING", x.bench(0), 1);
        owners(c, "GIVING: the other", x, 1, 0, 1, 0);
        Lift z = one(5, 10, "like 9 t=1;like 5 t=0", 10, 0, 5);
        c.due("GIVING gives what weighs nothing, too", z.bench(0), 2);
        owners(c, "GIVING", z, 1, 1, 0);
    }

    // ---- whose then

    /** Four HOLDERS who lift 20 but for one of that KIND who lifts nothing and owns THINGS of those WEIGHTS. */
    private static Lift four(int kind, int who, int... weights) {
        Lift x = new Lift();
        for (int p = 0; p < 4; p++) {
            x.person(p == who ? kind : 0, 0, p == who ? 0 : 20, 0);
        }
        for (int t = 0; t < weights.length; t++) {
            x.thing(weights[t]);
            x.give(t, who);
        }
        return x;
    }

    static void theNextOneGetsItAndBehindTheLastTheFirst(Check c) {
        for (int kind : Check.of(2, 5)) {
            for (int who = 0; who < 4; who++) {
                Lift x = four(kind, who, 20);
                c.due("KIND " + kind + " " + who, x.bench(who), 1);
                owners(c, "KIND " + kind + " " + who, x, (who + 1) % 4);
            }
        }
    }

    static void goesRoundInOrderAndThenIsNobodys(Check c) {
        for (int kind : Check.of(2, 5)) {
            for (int who = 0; who < 4; who++) {
                Lift x = four(kind, who, 20, 20, 20, 20, 20);
                c.due("KIND " + kind + " " + who, x.bench(who), 5);
                owners(c, "KIND " + kind + " " + who, x, (who + 1) % 4, (who + 2) % 4, (who + 3) % 4, -5, -5);
            }
        }
    }

    static void aLoadAsMuchAsLiftsFitsAndOneMoreDoesNot(Check c) {
        for (int kind : Check.of(2, 5)) {
            Lift x = four(kind, 0, 15);
            Check.things(x, 5, 6);
            Check.owners(x, 0, 1, -1);
            c.due("KIND " + kind, x.bench(0), 1);
            owners(c, "KIND " + kind + ": 20 of 20", x, 1);
            Lift y = four(kind, 0, 15);
            Check.things(y, 5, 6);
            Check.owners(y, 0, -1, 1);
            c.due("KIND " + kind, y.bench(0), 1);
            owners(c, "KIND " + kind + ": 21 of 20", y, 2);
        }
    }

    static void whatEachGetsCountsForTheNextThatIsDropped(Check c) {
        for (int kind : Check.of(2, 5)) {
            Lift x = four(kind, 3, 12, 8, 9, 12, 11, 13);
            c.due("KIND " + kind, x.bench(3), 6);
            owners(c, "KIND " + kind, x, 0, 0, 1, 2, 1, -5);
        }
    }

    static void itIsNeverThatOnesAgain(Check c) {
        for (int kind : Check.of(2, 5)) {
            Lift x = four(kind, 1, 7);
            Check.things(x, 20, 20, 20);
            Check.owners(x, 1, 0, 2, 3);
            x.strength(1, 6);
            c.due("KIND " + kind, x.bench(1), 1);
            owners(c, "KIND " + kind + ": none of the others can", x, -5);
            Lift y = four(kind, 2, 4, 4);
            Check.things(y, 20, 20, 20);
            Check.owners(y, 2, 2, 0, 1, 3);
            y.strength(2, 4);
            c.due("KIND " + kind, y.bench(2), 1);
            owners(c, "KIND " + kind + ": that one could, behind it", y, -5, 2);
        }
    }

    static void withoutAnotherOneItIsNobodys(Check c) {
        for (int kind : Check.of(2, 5)) {
            Lift x = new Lift();
            x.person(kind, 0, 4, 0);
            x.thing(5);
            x.give(0, 0);
            c.due("KIND " + kind, x.bench(0), 1);
            owners(c, "KIND " + kind, x, -5);
        }
    }

    static void whatWeighsNothingPassesOneWhoIsOver(Check c) {
        for (int kind : Check.of(2, 5)) {
            Lift x = four(kind, 0, 0, 5);
            Check.things(x, 21, 20);
            Check.owners(x, 0, 0, 1, 2);
            Check.land(x, kind == 2 ? "like 1 t=1" : "like 1 t=0");
            c.due("KIND " + kind, x.bench(0), 2);
            owners(c, "KIND " + kind + ": 1 is OVER, 2 lifts as much as is theirs", x, 2, 3, 1, 2);
        }
    }

    static void theLiftsOfTheHeirCountLandAndKind(Check c) {
        Lift x = four(2, 0, 20);
        x.strength(1, 19);
        c.due("19 of STRENGTH", x.again().bench(0), 1);
        Lift y = x.again();
        y.bench(0);
        owners(c, "19 of STRENGTH", y, 2);
        Check.land(x, "lift 1 p=1");
        x.bench(0);
        owners(c, "and 1 by the LAND", x, 1);
        Lift z = new Lift();
        z.person(2, 0, 0, 0);
        z.person(6, 9, 11, 0);
        z.thing(20);
        z.give(0, 0);
        z.bench(0);
        owners(c, "11 and v 9", z, 1);
    }

    static void ofAllOthersItIsNobodys(Check c) {
        for (int kind : Check.of(0, 1, 3, 4, 6)) {
            for (int who = 0; who < 4; who++) {
                Lift x = four(kind, who, 1, 2);
                c.due("KIND " + kind + " " + who, x.bench(who), 2);
                owners(c, "KIND " + kind + " " + who, x, -5, -5);
            }
        }
    }

    // ---- TOLD

    static void toldGoesByTheRowInItsOrder(Check c) {
        Lift x = one(6, toLift(6, 24), "like 9 t=4", 5, 5, 5, 5, 5);
        for (int t : Check.of(4, 1, 3)) {
            x.row(0, t);
        }
        int[][] due = {{0, 0, 0, 0, -5}, {0, -5, 0, 0, -5}, {0, -5, 0, -5, -5}, {-5, -5, 0, -5, -5}};
        for (int n = 0; n < 4; n++) {
            x.strength(0, toLift(6, 24 - 5 * n));
            c.due("TOLD", x.bench(0), 1);
            owners(c, "TOLD, " + (n + 1) + " dropped", x, due[n]);
        }
    }

    static void toldPassesWhatIsNotTheirs(Check c) {
        Lift x = one(6, toLift(6, 9), "like 9 p=9", 5, 5, 5, 5);
        Check.owners(x, 1, -1);
        for (int t : Check.of(0, 1, 3)) {
            x.row(0, t);
        }
        c.due("TOLD", x.bench(0), 1);
        owners(c, "TOLD", x, 1, -5, 0, -5);
    }

    static void toldPassesWhatWeighsNothing(Check c) {
        Lift x = one(6, toLift(6, 9), "like 9 p=9", 0, 5, 5);
        x.row(0, 0);
        x.row(0, 2);
        c.due("TOLD", x.bench(0), 1);
        owners(c, "TOLD", x, 0, 0, -5);
        Lift y = one(6, toLift(6, 9), "like 9 p=9", 0, 5, 1, 5);
        y.row(0, 0);
        y.row(0, 2);
        c.due("TOLD: what weighs 1 is dropped, then as LENDING", y.bench(0), 3);
        owners(c, "TOLD", y, -5, -5, -5, 0);
    }

    static void toldWithoutSuchOneIsAsLending(Check c) {
        String land = "like 3 t=0;like 1 t=1;like 2 t=2";
        Lift x = one(6, toLift(6, 14), land, 5, 5, 5);
        c.due("an empty ROW", x.bench(0), 1);
        owners(c, "an empty ROW", x, 0, -5, 0);
        Lift y = one(6, toLift(6, 9), land, 0, 5, 5);
        y.row(0, 0);
        c.due("a ROW of what weighs nothing", y.bench(0), 1);
        owners(c, "a ROW of what weighs nothing", y, 0, -5, 0);
        Lift z = one(6, toLift(6, 5), land, 5, 5, 5);
        z.row(0, 2);
        c.due("a ROW that ends", z.bench(0), 2);
        owners(c, "a ROW that ends", z, 0, -5, -5);
        Lift v = one(6, toLift(6, 14), land, 5, 5, 5);
        v.row(0, 2);
        v.row(0, -1);
        c.due("a ROW that was emptied", v.bench(0), 1);
        owners(c, "a ROW that was emptied", v, 0, -5, 0);
    }

    static void toldMayHaveAThingTwiceInTheRow(Check c) {
        Lift x = one(6, toLift(6, 5), "like 9 t=2", 5, 5, 5);
        for (int t : Check.of(2, 2, 2, 2, 2, 2, 1)) {
            x.row(0, t);
        }
        c.due("TOLD", x.bench(0), 2);
        owners(c, "TOLD: the seventh of the ROW", x, 0, -5, -5);
    }

    static void theRowOfAnotherOneTellsNothing(Check c) {
        Lift x = new Lift();
        x.person(6, 0, 9, 0);
        x.person(6, 0, 9, 0);
        Check.things(x, 5, 5, 5, 5);
        Check.owners(x, 0, 0, 1, 1);
        x.row(0, 1);
        x.row(0, 3);
        c.due("the other one", x.bench(1), 1);
        owners(c, "the other one", x, 0, 0, -5, 1);
        c.due("the one", x.bench(0), 1);
        owners(c, "the one", x, 0, -5, -5, 1);
    }

    // ---- YEARS

    static void theYearGoesFromNoughtToNinetyNine(Check c) {
        Lift x = new Lift();
        for (int n = 1; n <= 99; n++) {
            c.due("when()", x.when(), n - 1);
            c.due("year()", x.year(), n);
        }
        c.due("when()", x.when(), 99);
    }

    private static Lift old() {
        Lift x = new Lift();
        x.person(0, 0, 10, 0);
        x.thing(50);
        x.give(0, 0);
        for (int n = 1; n <= 98; n++) {
            x.year();
        }
        x.person(6, 0, 5, 7);
        x.thing(40);
        Check.land(x, "wear 3 t<9;lift 4 a=0");
        return x;
    }

    static void aYearBehindTheLastIsState(Check c) {
        Lift x = old();
        c.due("the last", x.year(), 99);
        c.due("AGE", x.of(1, 3), 8);
        c.due("WEIGHT", x.at(0, 0), 47);
        c.refuses(x, "year()", o -> o.year(), OwnsLift.STATE);
        c.refuses(x, "year()", o -> o.year(), OwnsLift.STATE);
        c.due("AGE stays", x.of(1, 3), 8);
        c.due("WEIGHT stays", x.at(0, 0), 47);
        c.due("when()", x.when(), 99);
    }

    static void anAgeIsNinetyNineAtMost(Check c) {
        Lift x = new Lift();
        for (int age : Check.of(0, 97, 98, 99)) {
            x.person(0, 0, 0, age);
        }
        int[][] due = {{1, 98, 99, 99}, {2, 99, 99, 99}, {3, 99, 99, 99}};
        for (int y = 0; y < 3; y++) {
            x.year();
            for (int p = 0; p < 4; p++) {
                c.due("AGE of " + p + " in YEAR " + (y + 1), x.of(p, 3), due[y][p]);
            }
        }
    }

    static void anAgeOfNineBecomesTen(Check c) {
        Lift x = Check.holders(Check.of());
        x.person(0, 0, 0, 9);
        Check.land(x, "lift 5 a=0;lift 7 a=1");
        c.due("LIFTS of 9", x.of(0, 4), 5);
        x.year();
        c.due("LIFTS of 10", x.of(0, 4), 7);
    }

    static void aWeightIsNoughtAtLeast(Check c) {
        Lift x = Check.holders(Check.of(9), 6, 5, 4, 1, 0, 50, 7);
        x.give(2, 0);
        Check.land(x, "wear 5 t<6");
        c.due("year()", x.year(), 1);
        int[] due = {1, 0, 0, 0, 0, 45, 7};
        for (int t = 0; t < 7; t++) {
            c.due("WEIGHT of " + t, x.at(t, 0), due[t]);
        }
        c.due("LOAD", x.of(0, 5), 0);
        x.year();
        c.due("WEIGHT of the first", x.at(0, 0), 0);
    }

    static void severalWearsTogetherAreTakenAtOnce(Check c) {
        Lift x = Check.holders(Check.of(), 30, 5, 49, 50);
        Check.land(x, "wear 7 t=0;wear 4 w=3;wear 99 w=2;wear 3 t=1;wear 3 t=1;wear 50 t=3;wear 48 t=2");
        x.year();
        c.due("by the WEIGHT that was", x.at(0, 0), 19);
        c.due("together more than it weighs", x.at(1, 0), 0);
        c.due("all but one", x.at(2, 0), 1);
        c.due("all", x.at(3, 0), 0);
    }

    static void whatDoesNotWearWeighsAsMuch(Check c) {
        Lift x = Check.holders(Check.of(9), 30, 50, 0);
        Check.land(x, "wear 0 t=0;like 9 t=1;lift 9 p=0;ill 9 p=0;wear 9 t=9");
        x.year();
        c.due("n 0", x.at(0, 0), 30);
        c.due("none holds", x.at(1, 0), 50);
        c.due("nothing", x.at(2, 0), 0);
    }

    static void wearIsOfTheYearThatHasCome(Check c) {
        Lift x = Check.holders(Check.of(), 50);
        Check.land(x, "wear 1 y=0;wear 4 y=1;wear 9 y=9");
        x.year();
        c.due("YEAR 1", x.at(0, 0), 46);
        for (int n = 2; n <= 8; n++) {
            x.year();
        }
        c.due("YEAR 8", x.at(0, 0), 46);
        x.year();
        c.due("YEAR 9", x.at(0, 0), 37);
        x.year();
        c.due("YEAR 10", x.at(0, 0), 36);
        x.year();
        c.due("YEAR 11", x.at(0, 0), 32);
    }

    static void aYearWithoutPeopleThingsOrLand(Check c) {
        Lift x = new Lift();
        c.due("year()", x.year(), 1);
        c.due("when()", x.when(), 1);
        c.due("nobody", x.count(0), 0);
    }

    static void aYearChangesNoOwnerRowOrSeen(Check c) {
        Lift x = old();
        x.row(1, 1);
        x.see(0, true);
        Check.feed(x, "li");
        x.act(0, 1, 1);
        x.year();
        c.due("OWNER", x.at(0, 1), 0);
        c.due("OWNER", x.at(1, 1), -5);
        c.due("ROW", x.of(1, 9), 1);
        c.due("SEEN", x.count(3), 1);
        c.due("THE TAPE", x.count(4), 2);
        c.due("THE TRACE", x.count(5), 2);
        c.due("STRENGTH", x.of(0, 2), 10);
    }
}
