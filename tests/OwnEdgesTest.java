/** The boundary cases of who should own what: "Terms" 3, promises 15 to 20. See SENTENCES.txt. */
public final class OwnEdgesTest {
    private static final int LEAST = Integer.MIN_VALUE;
    private static final int MOST = Integer.MAX_VALUE;

    public static void main(String[] args) throws IllegalAccessException {
        Edges.run(OwnEdgesTest.class);
    }

    /** BEST: the LIKE, and the OWNERS. */
    private static void best(Check c, String what, Lift x, int like, int... owners) {
        c.asks(x, what + ", best(-1)", o -> o.best(-1), like);
        for (int t = 0; t < owners.length; t++) {
            int thing = t;
            c.asks(x, what + ", best(" + t + ")", o -> o.best(thing), owners[t]);
        }
    }

    // ---- promise 15: BEST

    static void bestOfNobodyAndOfNothing(Check c) {
        best(c, "nobody", Check.holders(Check.of(), 0, 5), 0, -5, -5);
        best(c, "nothing", Check.holders(Check.of(9, 9)), 0);
        best(c, "neither", new Lift(), 0);
    }

    static void bestWhenNobodyCanLiftAnything(Check c) {
        best(c, "one short", Check.holders(Check.of(4, 4, 4, 4), 5, 5, 5, 5, 5, 5, 5), 0, -5, -5, -5, -5, -5, -5, -5);
        best(c, "nothing is lifted", Check.holders(Check.of(0, 0), 1, 1), 0, -5, -5);
    }

    static void bestOfALoadThatIsAsMuchAsLifts(Check c) {
        best(c, "5 of 5", Check.holders(Check.of(5), 5), 1, 0);
        best(c, "5 of 4", Check.holders(Check.of(4), 5), 0, -5);
        best(c, "10 of 10", Check.holders(Check.of(10), 5, 5), 2, 0, 0);
        best(c, "10 of 9", Check.holders(Check.of(9), 5, 5), 1, 0, -5);
    }

    static void bestOfWhatWeighsNothing(Check c) {
        best(c, "0 of 0", Check.holders(Check.of(0, 0), 0, 0, 1), 2, 0, 0, -5);
        Lift x = Check.holders(Check.of(0, 0, 0, 0), 0, 0, 0, 0, 0, 0, 0);
        Check.land(x, "like 1 p=3");
        best(c, "all of the last one", x, 14, 3, 3, 3, 3, 3, 3, 3);
    }

    static void bestOfAllThings(Check c) {
        Lift x = Check.holders(Check.of(90, 90, 90, 90), 50, 40, 50, 40, 50, 40, 50);
        best(c, "all, the first way", x, 7, 0, 0, 1, 1, 2, 2, 3);
    }

    static void bestOfSeveralIsTheFirstAsARow(Check c) {
        best(c, "the first of the PEOPLE", Check.holders(Check.of(9, 9, 9, 9), 9), 1, 0);
        best(c, "the first THING", Check.holders(Check.of(9, 9), 9, 9), 2, 0, 1);
        best(c, "the last one can", Check.holders(Check.of(8, 8, 8, 9), 9), 1, 3);
        // (0, 1, 1) and (1, 0, 1) and (1, 1, 0) serve alike.
        best(c, "by THINGS", Check.holders(Check.of(5, 10), 5, 5, 5), 3, 0, 1, 1);
        best(c, "by THINGS", Check.holders(Check.of(10, 5), 5, 5, 5), 3, 0, 0, 1);
        // 0 with the second would leave the first to 1 only if 1 could.
        best(c, "what serves most is ahead of what is first", Check.holders(Check.of(6, 4), 4, 6), 2, 1, 0);
    }

    static void bestOfSeveralHasNobodyBehindAll(Check c) {
        best(c, "(0, nobody) ahead of (nobody, 0)", Check.holders(Check.of(9), 9, 9), 1, 0, -5);
        best(c, "(3, nobody) ahead of (nobody, 3)", Check.holders(Check.of(0, 0, 0, 9), 9, 9), 1, 3, -5);
        Lift x = Check.holders(Check.of(10), 10, 5, 5);
        Check.land(x, "like 1 t=0");
        best(c, "(0, nobody, nobody) ahead of (nobody, 0, 0)", x, 2, 0, -5, -5);
        Lift y = Check.holders(Check.of(10), 5, 10, 5);
        Check.land(y, "like 1 t=1");
        best(c, "(0, nobody, 0) ahead of (nobody, 0, nobody)", y, 2, 0, -5, 0);
    }

    static void bestOfMoreLikeIsAheadOfTheFirstRow(Check c) {
        Lift x = Check.holders(Check.of(9, 9), 9);
        Check.land(x, "like 1 p=1");
        best(c, "by one", x, 2, 1);
        Lift y = Check.holders(Check.of(10), 10, 5, 5);
        Check.land(y, "like 2 t=0;like 1 t>0");
        best(c, "two of 2 are more than one of 3", y, 4, -5, 0, 0);
    }

    static void bestIsAllOneWhoseTheThingsAre(Check c) {
        Lift x = Check.holders(Check.of(9, 9), 9, 9);
        Check.owners(x, 1, 1);
        best(c, "1 is OVER", x, 2, 0, 1);
        Check.owners(x, 1, 0);
        best(c, "the other way round", x, 2, 0, 1);
    }

    static void bestOfNoSuchThingIsNoNumber(Check c) {
        Lift x = Check.holders(Check.of(9, 9), 9, 9);
        for (int t : Check.of(-2, -5, 2, 7, LEAST, MOST)) {
            c.refuses(x, "best(" + t + ")", o -> o.best(t), -1001);
        }
        c.due("the last one", x.best(1), 1);
        c.due("no THINGS", Check.holders(Check.of(9)).best(0), -1001);
        c.due("an eighth", Check.holders(Check.of(9), 0, 0, 0, 0, 0, 0, 0).best(7), -1001);
    }

    static void bestTellsTheLikeAndThenEachOwner(Check c) {
        Lift x = Check.holders(Check.of(5, 5), 5, 5, 5);
        Check.land(x, "like 3 p=1&t=0;like 2 p=0&t=2");
        best(c, "4 and 3 and nobody's", x, 7, 1, -5, 0);
    }

    // ---- promise 16: MOST


    static void mostOfNobodyAndOfNothing(Check c) {
        c.asks(Check.holders(Check.of(), 0, 5), "nobody", o -> o.most(), 0);
        c.asks(Check.holders(Check.of(9, 9)), "nothing", o -> o.most(), 0);
        c.asks(new Lift(), "neither", o -> o.most(), 0);
    }

    static void mostIsNoneToAll(Check c) {
        c.asks(Check.holders(Check.of(4, 4), 5, 5, 5), "none", o -> o.most(), 0);
        c.asks(Check.holders(Check.of(5, 4), 5, 5, 5), "one", o -> o.most(), 1);
        c.asks(Check.holders(Check.of(99, 99, 99, 53), 50, 50, 50, 50, 50, 50, 50), "four, of 350", o -> o.most(), 4);
        c.asks(Check.holders(Check.of(99, 50, 50, 50), 0, 49, 50, 50, 50, 50, 0), "all", o -> o.most(), 7);
        c.asks(Check.holders(Check.of(0), 0, 0, 0, 0, 0, 0, 0), "all weigh nothing", o -> o.most(), 7);
    }

    static void mostOfALoadThatIsAsMuchAsLifts(Check c) {
        c.asks(Check.holders(Check.of(10), 5, 5), "10 of 10", o -> o.most(), 2);
        c.asks(Check.holders(Check.of(9), 5, 5), "10 of 9", o -> o.most(), 1);
        c.asks(Check.holders(Check.of(10, 9), 6, 5, 4, 4), "10 and 9: 6 and 4, 5 and 4", o -> o.most(), 4);
        c.asks(Check.holders(Check.of(10, 8), 6, 5, 4, 4), "10 and 8", o -> o.most(), 3);
    }

    static void mostIsOfThingsAndNotOfLike(Check c) {
        Lift x = Check.holders(Check.of(10), 10, 5, 5);
        Check.land(x, "like 99 t=0");
        c.asks(x, "two of 5", o -> o.most(), 2);
        Check.owners(x, 0, 0, 0);
        c.asks(x, "whose they are is all one", o -> o.most(), 2);
    }

    static void mostTellsANumberAsWhatIsThereGrows(Check c) {
        Lift x = new Lift();
        c.due("nothing", x.most(), 0);
        x.person(0, 0, 7, 0);
        c.due("one of the PEOPLE", x.most(), 0);
        for (int t = 1; t <= 7; t++) {
            x.thing(1);
            c.due("THINGS", x.most(), t);
        }
        x.strength(0, 6);
        c.due("one less", x.most(), 6);
        x.strength(0, 0);
        c.due("none", x.most(), 0);
    }


    // ---- promise 17: TRAIN

    static void trainIsOfOneMoreAndNotOfTwo(Check c) {
        Lift x = Check.holders(Check.of(8), 10);
        Check.land(x, "like 6 t=0");
        c.asks(x, "10 of 8 and 1", o -> o.train(0), 0);
        x.strength(0, 9);
        c.asks(x, "10 of 9 and 1", o -> o.train(0), 7);
        x.strength(0, 10);
        c.asks(x, "10 of 10 and 1", o -> o.train(0), 0);
    }

    static void trainOfNothingOrOfWhatWeighsNothing(Check c) {
        c.asks(Check.holders(Check.of(0)), "nothing", o -> o.train(0), 0);
        c.asks(Check.holders(Check.of(0), 0, 0), "what weighs nothing", o -> o.train(0), 0);
        c.asks(Check.holders(Check.of(0), 1), "what weighs 1", o -> o.train(0), 1);
    }

    static void trainBeyondTheMostStrength(Check c) {
        Lift x = Check.holders(Check.of(99), 50, 50);
        c.asks(x, "100 of 99 and 1", o -> o.train(0), 1);
        c.due("STRENGTH", x.of(0, 2), 99);
        c.due("LIFTS", x.of(0, 4), 99);
        Lift y = Check.holders(Check.of(99), 50, 49);
        c.asks(y, "99 of 99", o -> o.train(0), 0);
    }

    static void trainIsLessWhenAnotherOneHasItAlready(Check c) {
        Lift x = Check.holders(Check.of(9, 10), 10);
        Check.land(x, "like 6 p=0;like 4 p=1");
        c.asks(x, "7 and not 5", o -> o.train(0), 2);
        c.asks(x, "the other one", o -> o.train(1), 0);
    }

    static void trainTellsTheLikeOfTheThingsThatOneMoreLifts(Check c) {
        Lift x = Check.holders(Check.of(9, 0), 5, 5, 10);
        Check.land(x, "like 3 t=2");
        // 5 and 5 of 10: 2; the one of 10: 4; of 9 one of 5: 1.
        c.asks(x, "4 and not 1", o -> o.train(0), 3);
        c.asks(x, "nothing", o -> o.train(1), 0);
        c.due("BEST is as it was", x.best(-1), 1);
    }


    static void trainOfNoSuchPersonIsNone(Check c) {
        Lift x = Check.holders(Check.of(9, 9), 10);
        for (int p : Check.of(-1, 2, 4, LEAST, MOST)) {
            c.refuses(x, "train(" + p + ")", o -> o.train(p), OwnsLift.NONE);
        }
        c.due("the last one", x.train(1), 1);
        c.due("nobody yet", new Lift().train(0), OwnsLift.NONE);
    }

    // ---- promise 18: MOVED

    static void movedOfNobodyNothingAndNobodysThings(Check c) {
        c.asks(new Lift(), "nobody and nothing", o -> o.moved(), 0);
        c.asks(Check.holders(Check.of(), 50), "nobody", o -> o.moved(), 0);
        c.asks(Check.holders(Check.of(0)), "nothing", o -> o.moved(), 0);
        c.asks(Check.holders(Check.of(0), 50, 50), "what is nobody's", o -> o.moved(), 0);
    }

    static void movedIsNoneWhenNobodyIsOver(Check c) {
        Lift x = Check.holders(Check.of(10, 5), 5, 5, 5);
        Check.owners(x, 0, 0, 1);
        c.asks(x, "as much as LIFTS", o -> o.moved(), 0);
        Check.land(x, "like 99 p=1&t=0;like 99 p=0&t=2");
        c.asks(x, "whatever they like", o -> o.moved(), 0);
    }

    static void movedIsOneToAllOfThem(Check c) {
        Lift x = Check.holders(Check.of(0, 28), 1, 2, 3, 4, 5, 6, 7);
        Check.owners(x, 0, 0, 0, 0, 0, 0, 0);
        c.asks(x, "all seven", o -> o.moved(), 7);
        x.strength(0, 7);
        c.asks(x, "all but one of 7", o -> o.moved(), 4);
        x.strength(0, 27);
        c.asks(x, "one", o -> o.moved(), 1);
        x.strength(0, 28);
        c.asks(x, "none", o -> o.moved(), 0);
    }

    static void movedCountsTheThingsThatMakeRoom(Check c) {
        Lift x = Check.holders(Check.of(5, 10), 10, 5);
        Check.owners(x, 0, 1);
        c.asks(x, "both", o -> o.moved(), 2);
    }

    static void movedWhenThereIsNoneSuch(Check c) {
        Lift x = Check.holders(Check.of(9), 10);
        x.give(0, 0);
        c.asks(x, "10 of 9, alone", o -> o.moved(), -5);
        x.strength(0, 10);
        c.asks(x, "10 of 10", o -> o.moved(), 0);
        Lift y = Check.holders(Check.of(9, 10, 9), 10, 10);
        Check.owners(y, 0, 1);
        c.asks(y, "one too much for all", o -> o.moved(), -5);
        y.give(0, -1);
        c.asks(y, "nobody's stays nobody's", o -> o.moved(), 0);
    }

    static void movedIsMinusFiveByOneThingAlone(Check c) {
        Lift x = Check.holders(Check.of(49, 49, 49, 49), 50, 1, 1, 1, 1, 1, 1);
        Check.owners(x, 0, 1, 2, 3);
        c.asks(x, "50 of 49", o -> o.moved(), -5);
        x.strength(3, 50);
        c.asks(x, "the last one can, without its own", o -> o.moved(), 2);
        x.strength(3, 51);
        c.asks(x, "the last one can", o -> o.moved(), 1);
    }


    static void movedLeavesNobodysThingsToNobody(Check c) {
        Lift x = Check.holders(Check.of(5, 5), 5, 5, 0);
        Check.owners(x, 0, 0, -1);
        c.asks(x, "one of two", o -> o.moved(), 1);
        Check.owners(x, 0, -1, 0);
        c.asks(x, "what weighs nothing stays", o -> o.moved(), 0);
    }

    // ---- promise 19: GIVES

    static void givesNothingIfNotOver(Check c) {
        Lift x = Check.holders(Check.of(10, 0), 5, 5);
        for (int what = 0; what < 2; what++) {
            int w = what;
            c.asks(x, "owning nothing " + what, o -> o.gives(0, w), 0);
            c.asks(x, "lifting nothing " + what, o -> o.gives(1, w), 0);
        }
        Check.owners(x, 0, 0);
        c.asks(x, "10 of 10", o -> o.gives(0, 0), 0);
        c.asks(x, "10 of 10", o -> o.gives(0, 1), 0);
    }

    static void givesTillTheLoadIsAsMuchAsLifts(Check c) {
        Lift x = Check.holders(Check.of(10), 5, 6, 4);
        Check.owners(x, 0, 0, 0);
        Check.land(x, "like 1 t=0;like 4 t=1;like 2 t=2");
        // 2, 5, 3: without 0 10 of 10 are left.
        c.asks(x, "the set", o -> o.gives(0, 0), 1);
        c.asks(x, "the LIKE", o -> o.gives(0, 1), 2);
        x.strength(0, 9);
        c.asks(x, "without 0 and 2, or 1: the less", o -> o.gives(0, 0), 2);
        c.asks(x, "5 and not 2 and 3: as much; the least bits", o -> o.gives(0, 1), 5);
    }

    static void givesAllButWhatWeighsNothing(Check c) {
        Lift x = Check.holders(Check.of(0), 1, 0, 2, 0, 3, 1, 1);
        Check.owners(x, 0, 0, 0, 0, 0, 0, 0);
        c.asks(x, "the set", o -> o.gives(0, 0), 127 - 2 - 8);
        c.asks(x, "the LIKE", o -> o.gives(0, 1), 5);
        Lift y = Check.holders(Check.of(0), 1, 1, 1, 1, 1, 1, 1);
        Check.owners(y, 0, 0, 0, 0, 0, 0, 0);
        c.asks(y, "all", o -> o.gives(0, 0), 127);
        c.asks(y, "all", o -> o.gives(0, 1), 7);
    }

    static void givesOfSeveralTheLeastAsBits(Check c) {
        Lift x = Check.holders(Check.of(10), 5, 5, 5);
        Check.owners(x, 0, 0, 0);
        c.asks(x, "1 of 1, 2, 4", o -> o.gives(0, 0), 1);
        x.strength(0, 5);
        c.asks(x, "3 of 3, 5, 6", o -> o.gives(0, 0), 3);
        Check.land(x, "like 1 t=2");
        c.asks(x, "3 ahead of what is liked more", o -> o.gives(0, 0), 3);
        Check.land(x, "like 2 t=0;like 1 t=1");
        x.strength(0, 10);
        c.asks(x, "what is liked less ahead of the least bits", o -> o.gives(0, 0), 4);
        Lift y = Check.holders(Check.of(5), 5, 5, 10);
        Check.owners(y, 0, 0, 0);
        Check.land(y, "like 1 t=2;lift 5 p=0");
        c.asks(y, "{0, 1} (3) ahead of {2} (4), both of 2", o -> o.gives(0, 0), 3);
        c.asks(y, "the LIKE", o -> o.gives(0, 1), 2);
    }

    static void givesOnlyOfTheirThings(Check c) {
        Lift x = Check.holders(Check.of(4, 9), 5, 5, 5);
        Check.owners(x, 1, -1, 0);
        c.asks(x, "the set", o -> o.gives(0, 0), 4);
        c.asks(x, "the other one's", o -> o.gives(1, 0), 0);
    }

    static void givesTellsTheSetAndTheLike(Check c) {
        Lift x = Check.holders(Check.of(4), 5, 0);
        Check.owners(x, 0, 0);
        Check.land(x, "like 98 t=0");
        c.asks(x, "the set", o -> o.gives(0, 0), 1);
        c.asks(x, "the LIKE", o -> o.gives(0, 1), 99);
        x.strength(0, 5);
        c.asks(x, "the empty set", o -> o.gives(0, 0), 0);
        c.asks(x, "its LIKE", o -> o.gives(0, 1), 0);
    }


    static void givesOfNoSuchPersonOrWhatIsNone(Check c) {
        Lift x = Check.holders(Check.of(4, 9), 5);
        x.give(0, 1);
        for (int n : Check.of(-1, 2, 4, LEAST, MOST)) {
            c.refuses(x, "gives(" + n + ", 0)", o -> o.gives(n, 0), OwnsLift.NONE);
            c.refuses(x, "gives(0, " + n + ")", o -> o.gives(0, n), OwnsLift.NONE);
        }
        c.due("nobody yet", new Lift().gives(0, 0), OwnsLift.NONE);
    }

    // ---- promise 20: PARTS

    private static void parts(Check c, String what, Lift x, long above, long below) {
        c.asks(x, what + ", above", o -> o.parts(0, 0), above);
        c.asks(x, what + ", below", o -> o.parts(0, 1), below);
    }

    static void partsOfNothingIsNoughtByOne(Check c) {
        Lift x = Check.holders(Check.of(9), 5);
        parts(c, "owning nothing", x, 0, 1);
        Lift y = Check.holders(Check.of(0), 5, 7);
        Check.owners(y, 0, 0);
        parts(c, "lifting nothing", y, 0, 1);
    }

    static void partsOfWhatWeighsNothingIsTheWhole(Check c) {
        Lift x = Check.holders(Check.of(0), 0, 5, 0);
        Check.owners(x, 0, 0, 0);
        Check.land(x, "like 3 t=0;like 9 t=1");
        parts(c, "4 and 1", x, 5, 1);
        x.strength(0, 1);
        parts(c, "4 and 1 and a fifth of 10", x, 7, 1);
    }

    static void partsUpToLiftsAndOneBeyond(Check c) {
        Lift x = Check.holders(Check.of(10), 4, 6);
        Check.owners(x, 0, 0);
        Check.land(x, "like 7 t=0;like 2 t=1");
        parts(c, "10 of 10", x, 11, 1);
        x.strength(0, 11);
        parts(c, "10 of 11", x, 11, 1);
        x.strength(0, 9);
        parts(c, "8 and 5/6 of 3", x, 21, 2);
        x.strength(0, 4);
        parts(c, "the first alone", x, 8, 1);
        x.strength(0, 3);
        parts(c, "3/4 of the first", x, 6, 1);
        x.strength(0, 1);
        parts(c, "1/4 of the first", x, 2, 1);
    }

    static void partsAreInLowestTerms(Check c) {
        Lift x = Check.holders(Check.of(10), 50);
        x.give(0, 0);
        parts(c, "10/50 of 1", x, 1, 5);
        x.strength(0, 49);
        parts(c, "49/50 of 1", x, 49, 50);
        x.strength(0, 25);
        parts(c, "25/50 of 1", x, 1, 2);
        Check.land(x, "like 3 p=0");
        parts(c, "25/50 of 4", x, 2, 1);
        x.strength(0, 99);
        parts(c, "4 whole", x, 4, 1);
    }

    static void partsTakeFirstWhatHasTheMostLikeForItsWeight(Check c) {
        Lift x = Check.holders(Check.of(5), 1, 5);
        Check.owners(x, 0, 0);
        Check.land(x, "like 49 t=1");
        parts(c, "50 for 5 ahead of 1 for 1", x, 50, 1);
        Check.land(x, "like 49 t=0");
        parts(c, "50 for 1 ahead of 1 for 5", x, 254, 5);
        Lift y = Check.holders(Check.of(5), 5, 1);
        Check.owners(y, 0, 0);
        Check.land(y, "like 49 t=0");
        parts(c, "50 for 5 ahead of 1 for 1", y, 50, 1);
    }


    static void partsOfOneHaveThePartOfItsLikeAlone(Check c) {
        Lift x = Check.holders(Check.of(7), 7, 7);
        Check.owners(x, 0, 0);
        parts(c, "one of two alike", x, 1, 1);
        x.strength(0, 10);
        parts(c, "1 and 3/7", x, 10, 7);
        Check.land(x, "like 1 t=1");
        parts(c, "2 and 3/7 of 1", x, 17, 7);
    }

    static void partsTellsAboveAndBelowTheLine(Check c) {
        Lift x = Check.holders(Check.of(1), 50);
        x.give(0, 0);
        parts(c, "1/50 of 1", x, 1, 50);
        Check.land(x, "like 99 p=0;like 99 p=0;like 99 p=0;like 99 p=0;like 99 p=0;like 99 p=0;like 98 p=0");
        parts(c, "1/50 of 693", x, 693, 50);
        x.strength(0, 49);
        parts(c, "49/50 of 693", x, 33957, 50);
        x.strength(0, 50);
        parts(c, "693", x, 693, 1);
    }


    static void partsOfNoSuchPersonOrPartIsNo(Check c) {
        Lift x = Check.holders(Check.of(4, 9), 5);
        x.give(0, 1);
        for (int n : Check.of(-1, 2, 4, LEAST, MOST)) {
            c.refuses(x, "parts(" + n + ", 0)", o -> o.parts(n, 0), OwnsLift.NO);
            c.refuses(x, "parts(0, " + n + ")", o -> o.parts(0, n), OwnsLift.NO);
        }
        c.due("the last one", x.parts(1, 0), 1);
        c.due("nobody yet", new Lift().parts(0, 0), OwnsLift.NO);
    }
}
