/** The boundary cases of PEOPLE and THINGS: "Terms" 1, promises 1 and 4 to 12. See SENTENCES.txt. */
public final class PeopleEdgesTest {
    private static final int LEAST = Integer.MIN_VALUE;
    private static final int MOST = Integer.MAX_VALUE;

    public static void main(String[] args) throws IllegalAccessException {
        Edges.run(PeopleEdgesTest.class);
    }

    /** A HOLDER, a TOLD one and a LENDING one of STRENGTH 40; THINGS of 10, 20, 30; the TOLD one's ROW is 1; 0 is the HOLDER's. */
    private static Lift some() {
        Lift x = new Lift();
        x.person(0, 1, 40, 10);
        x.person(6, 2, 40, 20);
        x.person(3, 3, 40, 30);
        Check.things(x, 10, 20, 30);
        x.give(0, 0);
        x.row(1, 1);
        return x;
    }

    /** As many PEOPLE and THINGS as there can be. */
    private static Lift all() {
        Lift x = new Lift();
        for (int p = 0; p < 4; p++) {
            x.person(p == 3 ? 6 : p, p, 10 * p, 20 * p);
        }
        Check.things(x, 1, 2, 3, 4, 5, 6, 7);
        Check.owners(x, 0, 1, 2, 3, -1, 0, 1);
        return x;
    }

    // ---- promise 1: a new object

    static void aNewObjectHasNobodyAndNothing(Check c) {
        Lift x = new Lift();
        for (int what = 0; what < 6; what++) {
            int w = what;
            c.asks(x, "count(" + what + ")", o -> o.count(w), 0);
        }
        c.asks(x, "when()", o -> o.when(), 0);
        c.asks(x, "person 0", o -> o.of(0, 0), OwnsLift.NONE);
        c.asks(x, "thing 0", o -> o.at(0, 0), -1001);
        c.asks(x, "trace(0)", o -> o.trace(0), OwnsLift.NONE);
        c.asks(x, "undo()", o -> o.undo(), OwnsLift.STATE);
    }

    static void aNewObjectAnswersWhatIsAskedOfNothing(Check c) {
        Lift x = new Lift();
        c.asks(x, "best(-1)", o -> o.best(-1), 0);
        c.asks(x, "best(0)", o -> o.best(0), -1001);
        c.asks(x, "most()", o -> o.most(), 0);
        c.asks(x, "moved()", o -> o.moved(), 0);
        c.asks(x, "swap(0)", o -> o.swap(0), 0);
        c.asks(x, "swap(1)", o -> o.swap(1), -5);
        c.asks(x, "rest()", o -> o.rest(), 0);
        c.asks(x, "had(0, 0)", o -> o.had(0, 0), 1);
        c.asks(x, "had(0, 1)", o -> o.had(0, 1), 0);
        c.asks(x, "had(1, 0)", o -> o.had(1, 0), 0);
        c.asks(x, "had(1, 1)", o -> o.had(1, 1), -5);
        c.asks(x, "odds(0)", o -> o.odds(0), 1);
        c.asks(x, "odds(1)", o -> o.odds(1), 1);
        c.asks(x, "looked()", o -> o.looked(), -5);
        c.asks(x, "land()", o -> o.land(), -10);
        c.due("year()", x.year(), 1);
    }

    static void twoNewObjectsHaveNothingInCommon(Check c) {
        Lift x = all();
        Check.land(x, "like 9 p=0");
        x.image();
        Lift y = new Lift();
        c.due("nobody", y.count(0), 0);
        c.due("no THINGS", y.count(1), 0);
        c.due("no LAND", y.count(2), 0);
        c.due("no IMAGE", y.undo(), OwnsLift.STATE);
        c.due("x as it was", x.count(0), 4);
    }

    static void theConstants(Check c) {
        c.due("NONE", OwnsLift.NONE, -1);
        c.due("BAD", OwnsLift.BAD, -2);
        c.due("STATE", OwnsLift.STATE, -3);
        c.due("FULL", OwnsLift.FULL, -4);
        c.due("NO", OwnsLift.NO, Long.MIN_VALUE);
    }

    static void theFiveHundredAndTwelfthCallAnswers(Check c) {
        Lift x = some();
        while (x.calls() < 511) {
            c.due("count(1)", x.count(1), 3);
        }
        c.due("the last call", x.give(0, 1), 0);
        c.due("calls", x.calls(), 512);
        Lift y = some();
        while (y.calls() < 511) {
            y.act(1, 2, y.calls());
        }
        c.due("the last call", y.best(-1), 3);
    }

    // ---- promise 4: person

    static void peopleAreNumberedFromNought(Check c) {
        Lift x = new Lift();
        for (int p = 0; p < 4; p++) {
            c.due("PEOPLE ahead", x.count(0), p);
            c.due("person()", x.person(0, 0, 0, 0), p);
        }
        c.due("PEOPLE", x.count(0), 4);
    }

    static void thereAreFourOfThePeopleAtMost(Check c) {
        Lift x = all();
        c.due("the first", x.of(0, 0), 0);
        c.due("the last", x.of(3, 0), 6);
        c.due("none behind", x.of(4, 0), OwnsLift.NONE);
        c.due("nothing is given to one behind", x.give(0, 4), -1001);
        c.due("no BENCH of one behind", x.bench(4), OwnsLift.NONE);
        c.due("a fifth", x.person(0, 0, 0, 0), OwnsLift.FULL);
        c.due("still none behind", x.of(4, 0), OwnsLift.NONE);
    }


    static void aFifthOfThePeopleIsFull(Check c) {
        Lift x = all();
        c.refuses(x, "person()", o -> o.person(0, 0, 0, 0), OwnsLift.FULL);
        c.refuses(x, "person()", o -> o.person(6, 9, 99, 99), OwnsLift.FULL);
        c.due("PEOPLE", x.count(0), 4);
        c.due("of(4, 0)", x.of(4, 0), OwnsLift.NONE);
    }

    static void theFirstAndTheLastKind(Check c) {
        for (int kind = 0; kind < 7; kind++) {
            Lift x = new Lift();
            c.due("person of KIND " + kind, x.person(kind, 0, 0, 0), 0);
            c.due("KIND", x.of(0, 0), kind);
        }
    }

    static void aKindBelowTheFirstIsNone(Check c) {
        Lift x = some();
        c.refuses(x, "KIND -1", o -> o.person(-1, 0, 0, 0), OwnsLift.NONE);
        c.refuses(x, "the least KIND", o -> o.person(LEAST, 0, 0, 0), OwnsLift.NONE);
    }

    static void aKindAboveTheLastIsNone(Check c) {
        Lift x = some();
        c.refuses(x, "KIND 7", o -> o.person(7, 0, 0, 0), OwnsLift.NONE);
        c.refuses(x, "the most KIND", o -> o.person(MOST, 0, 0, 0), OwnsLift.NONE);
    }

    static void theLeastAndTheMostV(Check c) {
        Lift x = new Lift();
        c.due("v 0", x.person(3, 0, 5, 5), 0);
        c.due("v 9", x.person(3, 9, 5, 5), 1);
        c.due("v", x.of(0, 1), 0);
        c.due("v", x.of(1, 1), 9);
    }

    static void aVBeyondIsBad(Check c) {
        Lift x = some();
        for (int v : Check.of(-1, 10, LEAST, MOST)) {
            c.refuses(x, "v " + v, o -> o.person(0, v, 0, 0), OwnsLift.BAD);
        }
    }

    static void theLeastAndTheMostStrength(Check c) {
        Lift x = new Lift();
        c.due("STRENGTH 0", x.person(0, 5, 0, 5), 0);
        c.due("STRENGTH 99", x.person(0, 5, 99, 5), 1);
        c.due("STRENGTH", x.of(0, 2), 0);
        c.due("STRENGTH", x.of(1, 2), 99);
    }

    static void aStrengthBeyondIsBad(Check c) {
        Lift x = some();
        for (int strength : Check.of(-1, 100, LEAST, MOST)) {
            c.refuses(x, "STRENGTH " + strength, o -> o.person(0, 0, strength, 0), OwnsLift.BAD);
        }
    }

    static void theLeastAndTheMostAge(Check c) {
        Lift x = new Lift();
        c.due("AGE 0", x.person(0, 5, 5, 0), 0);
        c.due("AGE 99", x.person(0, 5, 5, 99), 1);
        c.due("AGE", x.of(0, 3), 0);
        c.due("AGE", x.of(1, 3), 99);
    }

    static void anAgeBeyondIsBad(Check c) {
        Lift x = some();
        for (int age : Check.of(-1, 100, LEAST, MOST)) {
            c.refuses(x, "AGE " + age, o -> o.person(0, 0, 0, age), OwnsLift.BAD);
        }
    }

    static void personIsBadByEachOfItsNumbersAlone(Check c) {
        Lift x = some();
        int[][] bad = {{-1, 0, 0}, {10, 0, 0}, {0, -1, 0}, {0, 100, 0}, {0, 0, -1}, {0, 0, 100}, {10, 100, 100}};
        for (int[] n : bad) {
            for (int k = 0; k < 7; k += 6) {
                int kind = k;
                c.refuses(x, "person(" + k + ", ..)", o -> o.person(kind, n[0], n[1], n[2]), OwnsLift.BAD);
            }
        }
        c.due("all at their most", x.person(6, 9, 99, 99), 3);
    }


    static void personNamesNoneAheadOfBadAndFull(Check c) {
        Lift x = some();
        c.refuses(x, "KIND and v", o -> o.person(7, 10, 0, 0), OwnsLift.NONE);
        c.refuses(x, "KIND and STRENGTH", o -> o.person(-1, 0, 100, 0), OwnsLift.NONE);
        c.refuses(x, "KIND and AGE", o -> o.person(7, 0, 0, -1), OwnsLift.NONE);
        Lift y = all();
        c.refuses(y, "KIND of a fifth", o -> o.person(7, 0, 0, 0), OwnsLift.NONE);
        c.refuses(y, "KIND of a fifth", o -> o.person(-1, -1, -1, -1), OwnsLift.NONE);
    }

    static void personNamesBadAheadOfFull(Check c) {
        Lift x = all();
        c.refuses(x, "v of a fifth", o -> o.person(0, 10, 0, 0), OwnsLift.BAD);
        c.refuses(x, "STRENGTH of a fifth", o -> o.person(0, 0, -1, 0), OwnsLift.BAD);
        c.refuses(x, "AGE of a fifth", o -> o.person(0, 0, 0, 100), OwnsLift.BAD);
    }

    // ---- promise 5: of

    static void ofAsksTheFirstToTheLastWhat(Check c) {
        Lift x = some();
        x.give(1, 1);
        x.give(2, 1);
        int[] due = {6, 2, 40, 20, 42, 50, 1, 0, 6, 1};
        for (int what = 0; what < 10; what++) {
            int w = what;
            c.asks(x, "of(1, " + what + ")", o -> o.of(1, w), due[what]);
        }
    }

    static void ofAnotherWhatIsNone(Check c) {
        Lift x = some();
        for (int what : Check.of(-1, 10, LEAST, MOST)) {
            c.refuses(x, "of(0, " + what + ")", o -> o.of(0, what), OwnsLift.NONE);
        }
    }

    static void ofNoSuchPersonIsNone(Check c) {
        Lift x = some();
        for (int p : Check.of(-1, 3, 4, LEAST, MOST)) {
            c.refuses(x, "of(" + p + ", 0)", o -> o.of(p, 0), OwnsLift.NONE);
            c.refuses(x, "of(" + p + ", 10)", o -> o.of(p, 10), OwnsLift.NONE);
        }
        c.due("the last one", x.of(2, 0), 3);
        c.due("nobody yet", new Lift().of(0, 0), OwnsLift.NONE);
        c.due("a fifth", all().of(4, 0), OwnsLift.NONE);
    }

    static void loadOfNothingAndOfAll(Check c) {
        Lift x = Check.holders(Check.of(0, 0), 50, 50, 50, 50, 50, 50, 50);
        c.due("LOAD of nothing", x.of(0, 5), 0);
        Check.owners(x, 0, 0, 0, 0, 0, 0, 0);
        c.due("LOAD of all", x.of(0, 5), 350);
        c.due("LOAD of the other", x.of(1, 5), 0);
        Lift y = Check.holders(Check.of(0), 0, 0);
        Check.owners(y, 0, 0);
        c.due("LOAD of what weighs nothing", y.of(0, 5), 0);
    }

    static void overIsAboveLiftsAndNotAsMuch(Check c) {
        Lift x = Check.holders(Check.of(19), 20);
        c.due("with nothing", x.of(0, 6), 0);
        x.give(0, 0);
        c.due("20 of 19", x.of(0, 6), 1);
        x.strength(0, 20);
        c.due("20 of 20", x.of(0, 6), 0);
        x.strength(0, 21);
        c.due("20 of 21", x.of(0, 6), 0);
        Lift y = Check.holders(Check.of(0), 0, 1);
        c.due("nothing of 0", y.of(0, 6), 0);
        y.give(0, 0);
        c.due("0 of 0", y.of(0, 6), 0);
        y.give(1, 0);
        c.due("1 of 0", y.of(0, 6), 1);
    }

    static void overCountsWhatLandAndKindAddToLifts(Check c) {
        Lift x = new Lift();
        x.person(3, 9, 10, 0);
        x.person(6, 1, 10, 0);
        x.person(1, 9, 10, 0);
        Check.things(x, 19, 11, 11);
        Check.owners(x, 0, 1, 2);
        c.due("LENDING, 19 of 19", x.of(0, 6), 0);
        c.due("TOLD, 11 of 11", x.of(1, 6), 0);
        c.due("FULL, 11 of 10", x.of(2, 6), 1);
        Check.land(x, "lift 1 p=2");
        c.due("FULL, 11 of 11", x.of(2, 6), 0);
    }

    static void vIsLentByLendingAndToldAlone(Check c) {
        int[] due = {10, 10, 10, 19, 10, 10, 19};
        for (int kind = 0; kind < 7; kind++) {
            Lift x = new Lift();
            x.person(kind, 9, 10, 0);
            c.due("LIFTS of KIND " + kind, x.of(0, 4), due[kind]);
        }
    }

    static void ofTellsTheLoadAsThingsComeAndGo(Check c) {
        Lift x = some();
        c.due("10", x.of(0, 5), 10);
        x.give(2, 0);
        c.due("10 and 30", x.of(0, 5), 40);
        x.give(0, 1);
        c.due("30", x.of(0, 5), 30);
        c.due("the other's 10", x.of(1, 5), 10);
        x.give(2, -1);
        c.due("nothing", x.of(0, 5), 0);
    }

    static void ofTellsOverAsOneOrNought(Check c) {
        Lift x = some();
        x.strength(0, 10);
        c.asks(x, "10 of 10", o -> o.of(0, 6), 0);
        x.strength(0, 9);
        c.asks(x, "10 of 9", o -> o.of(0, 6), 1);
        x.strength(0, 0);
        c.asks(x, "10 of 0", o -> o.of(0, 6), 1);
    }

    static void ofTellsIllOfThatOneAlone(Check c) {
        Lift x = some();
        c.due("without a LAND", x.of(0, 7), 0);
        Check.land(x, "ill 10 p=0;ill 11 p=2");
        c.due("10", x.of(0, 7), 10);
        c.due("0", x.of(1, 7), 0);
        c.due("11", x.of(2, 7), 10);
    }


    static void thingsAsBitsFromNoneToAll(Check c) {
        Lift x = Check.holders(Check.of(0, 0), 1, 1, 1, 1, 1, 1, 1);
        c.due("none", x.of(0, 8), 0);
        for (int t = 0; t < 7; t++) {
            x.give(t, 0);
            c.due("up to " + t, x.of(0, 8), (2 << t) - 1);
            c.due("the other's", x.of(1, 8), 0);
        }
        x.give(0, 1);
        c.due("but the first", x.of(0, 8), 126);
        c.due("the first", x.of(1, 8), 1);
        x.give(6, -1);
        c.due("nor the last", x.of(0, 8), 62);
    }

    static void theSizeOfTheRowFromNoneToSeven(Check c) {
        Lift x = some();
        c.due("no ROW of a HOLDER", x.of(0, 9), 0);
        for (int n = 1; n <= 7; n++) {
            c.due("size", x.of(1, 9), n);
            x.row(1, 0);
        }
        c.due("an eighth", x.of(1, 9), 7);
        x.row(1, -1);
        c.due("none then", x.of(1, 9), 0);
    }

    // ---- promise 6: strength

    static void strengthBecomesTheLeastAndTheMost(Check c) {
        Lift x = some();
        c.due("strength(0, 99)", x.strength(0, 99), 40);
        c.due("STRENGTH", x.of(0, 2), 99);
        c.due("strength(0, 0)", x.strength(0, 0), 99);
        c.due("STRENGTH", x.of(0, 2), 0);
        c.due("strength(0, 0) again", x.strength(0, 0), 0);
        c.due("the others'", x.of(1, 2), 40);
        c.due("the others'", x.of(2, 2), 40);
    }

    static void strengthBeyondIsBad(Check c) {
        Lift x = some();
        for (int n : Check.of(-1, 100, LEAST, MOST)) {
            c.refuses(x, "strength(0, " + n + ")", o -> o.strength(0, n), OwnsLift.BAD);
        }
    }

    static void strengthOfNoSuchPersonIsNone(Check c) {
        Lift x = some();
        for (int p : Check.of(-1, 3, 4, LEAST, MOST)) {
            c.refuses(x, "strength(" + p + ", 5)", o -> o.strength(p, 5), OwnsLift.NONE);
        }
        c.due("the last one", x.strength(2, 5), 40);
        c.due("nobody yet", new Lift().strength(0, 5), OwnsLift.NONE);
    }

    static void strengthNamesNoneAheadOfBad(Check c) {
        Lift x = some();
        c.refuses(x, "strength(3, 100)", o -> o.strength(3, 100), OwnsLift.NONE);
        c.refuses(x, "strength(-1, -1)", o -> o.strength(-1, -1), OwnsLift.NONE);
    }

    // ---- promise 7: row

    static void aRowIsEmptyAtFirstAndTakesSeven(Check c) {
        Lift x = some();
        Lift y = new Lift();
        y.person(6, 0, 0, 0);
        c.due("none at first", y.of(0, 9), 0);
        for (int n = 2; n <= 7; n++) {
            c.due("row(1, ..)", x.row(1, n % 3), n);
        }
        c.due("size", x.of(1, 9), 7);
    }

    static void anEighthOfARowIsFull(Check c) {
        Lift x = some();
        for (int n = 2; n <= 7; n++) {
            x.row(1, 0);
        }
        for (int t = 0; t < 3; t++) {
            int thing = t;
            c.refuses(x, "row(1, " + t + ")", o -> o.row(1, thing), OwnsLift.FULL);
        }
        c.due("size", x.of(1, 9), 7);
    }

    static void aRowTakesTheSameThingTwiceAndWhatIsNotTheirs(Check c) {
        Lift x = some();
        c.due("the same", x.row(1, 1), 2);
        c.due("another's", x.row(1, 0), 3);
        c.due("nobody's", x.row(1, 2), 4);
    }

    static void noThingEmptiesTheRow(Check c) {
        Lift x = some();
        c.due("row(1, -1)", x.row(1, -1), 0);
        c.due("size", x.of(1, 9), 0);
        c.asks(x, "row(1, -1) of none", o -> o.row(1, -1), 0);
        for (int n = 1; n <= 7; n++) {
            c.due("anew", x.row(1, 2), n);
        }
        c.due("row(1, -1) of a full one", x.row(1, -1), 0);
        c.due("anew", x.row(1, 2), 1);
    }

    static void rowOfAnotherKindIsState(Check c) {
        for (int kind = 0; kind < 6; kind++) {
            Lift x = new Lift();
            x.person(kind, 0, 0, 0);
            x.thing(5);
            c.refuses(x, "row(0, 0) of KIND " + kind, o -> o.row(0, 0), OwnsLift.STATE);
            c.refuses(x, "row(0, -1) of KIND " + kind, o -> o.row(0, -1), OwnsLift.STATE);
        }
    }

    static void rowOfNoSuchPersonOrThingIsNone(Check c) {
        Lift x = some();
        for (int n : Check.of(-1, 3, 4, LEAST, MOST)) {
            c.refuses(x, "row(" + n + ", 0)", o -> o.row(n, 0), OwnsLift.NONE);
            c.refuses(x, "row(" + n + ", -1)", o -> o.row(n, -1), OwnsLift.NONE);
        }
        for (int n : Check.of(-2, -5, 3, 7, LEAST, MOST)) {
            c.refuses(x, "row(1, " + n + ")", o -> o.row(1, n), OwnsLift.NONE);
        }
        c.due("the last THING", x.row(1, 2), 2);
        Lift y = new Lift();
        y.person(6, 0, 0, 0);
        c.refuses(y, "row(0, 0) without THINGS", o -> o.row(0, 0), OwnsLift.NONE);
        c.asks(y, "row(0, -1) without THINGS", o -> o.row(0, -1), 0);
    }

    static void rowNamesNoneAheadOfStateAndFull(Check c) {
        Lift x = some();
        c.refuses(x, "row(0, 3): no THING, a HOLDER", o -> o.row(0, 3), OwnsLift.NONE);
        c.refuses(x, "row(2, -2): no THING, LENDING", o -> o.row(2, -2), OwnsLift.NONE);
        for (int n = 2; n <= 7; n++) {
            x.row(1, 0);
        }
        c.refuses(x, "row(1, 3): no THING, full", o -> o.row(1, 3), OwnsLift.NONE);
        c.refuses(x, "row(3, 0): no such one", o -> o.row(3, 0), OwnsLift.NONE);
    }

    // ---- promise 8: thing

    static void thingsAreNumberedFromNought(Check c) {
        Lift x = new Lift();
        for (int t = 0; t < 7; t++) {
            c.due("THINGS ahead", x.count(1), t);
            c.due("thing()", x.thing(t), t);
            c.due("nobody's", x.at(t, 1), -5);
        }
        c.due("THINGS", x.count(1), 7);
    }

    static void thereAreSevenThingsAtMost(Check c) {
        Lift x = all();
        c.due("the first", x.at(0, 0), 1);
        c.due("the last", x.at(6, 0), 7);
        c.due("none behind", x.at(7, 0), -1001);
        c.due("none behind is liked", x.like(0, 7), OwnsLift.NONE);
        c.due("none behind is given", x.give(7, 0), -1001);
        c.due("none behind comes to a ROW", x.row(3, 7), OwnsLift.NONE);
        c.due("an eighth", x.thing(0), OwnsLift.FULL);
        c.due("still none behind", x.at(7, 0), -1001);
    }

    static void anOwnerIsOneOfThePeopleOrNobody(Check c) {
        Lift x = all();
        int[] due = {0, 1, 2, 3, -5, 0, 1};
        for (int t = 0; t < 7; t++) {
            c.due("OWNER of " + t, x.at(t, 1), due[t]);
        }
        int of = 0;
        for (int p = 0; p < 4; p++) {
            of += x.of(p, 8);
        }
        c.due("each of one alone", of, 127 - 16);
    }


    static void anEighthThingIsFull(Check c) {
        Lift x = all();
        c.refuses(x, "thing(0)", o -> o.thing(0), OwnsLift.FULL);
        c.refuses(x, "thing(50)", o -> o.thing(50), OwnsLift.FULL);
        c.due("at(7, 0)", x.at(7, 0), -1001);
    }

    static void theLeastAndTheMostWeight(Check c) {
        Lift x = new Lift();
        c.due("thing(0)", x.thing(0), 0);
        c.due("thing(50)", x.thing(50), 1);
        c.due("WEIGHT", x.at(0, 0), 0);
        c.due("WEIGHT", x.at(1, 0), 50);
    }

    static void aWeightBeyondIsBad(Check c) {
        Lift x = some();
        for (int weight : Check.of(-1, 51, LEAST, MOST)) {
            c.refuses(x, "thing(" + weight + ")", o -> o.thing(weight), OwnsLift.BAD);
        }
        c.due("the next THING's number", x.thing(50), 3);
    }

    static void thingNamesBadAheadOfFull(Check c) {
        Lift x = all();
        c.refuses(x, "thing(-1)", o -> o.thing(-1), OwnsLift.BAD);
        c.refuses(x, "thing(51)", o -> o.thing(51), OwnsLift.BAD);
    }

    static void aThingIsNobodysAtFirst(Check c) {
        Lift x = Check.holders(Check.of(9, 9, 9, 9), 5);
        c.asks(x, "at(0, 1)", o -> o.at(0, 1), -5);
        for (int p = 0; p < 4; p++) {
            c.due("not of " + p, x.of(p, 8), 0);
        }
    }

    // ---- promise 9: at

    static void atAsksTheFirstAndTheLastWhat(Check c) {
        Lift x = some();
        c.asks(x, "at(0, 0)", o -> o.at(0, 0), 10);
        c.asks(x, "at(0, 1)", o -> o.at(0, 1), 0);
        c.asks(x, "at(2, 0)", o -> o.at(2, 0), 30);
        c.asks(x, "at(2, 1)", o -> o.at(2, 1), -5);
    }

    static void atNoSuchThingOrWhatIsNoNumber(Check c) {
        Lift x = some();
        for (int n : Check.of(-1, -5, 3, 7, LEAST, MOST)) {
            c.refuses(x, "at(" + n + ", 0)", o -> o.at(n, 0), -1001);
            c.refuses(x, "at(" + n + ", 1)", o -> o.at(n, 1), -1001);
        }
        for (int what : Check.of(-1, 2, LEAST, MOST)) {
            c.refuses(x, "at(0, " + what + ")", o -> o.at(0, what), -1001);
        }
        c.due("without THINGS", new Lift().at(0, 0), -1001);
        c.due("an eighth", all().at(7, 1), -1001);
    }

    // ---- promise 10: give

    static void giveTellsWhoseItWas(Check c) {
        Lift x = all();
        c.due("was nobody's", x.give(4, 3), -5);
        c.due("was the last one's", x.give(4, 0), 3);
        c.due("was the first one's", x.give(4, -1), 0);
        c.asks(x, "was nobody's and is", o -> o.give(4, -1), -5);
        c.asks(x, "was theirs and is", o -> o.give(0, 0), 0);
    }

    static void aThingMayBeGivenToOneWhoIsOver(Check c) {
        Lift x = Check.holders(Check.of(0), 50, 50);
        c.due("give(0, 0)", x.give(0, 0), -5);
        c.due("is OVER", x.of(0, 6), 1);
        c.due("give(1, 0)", x.give(1, 0), -5);
        c.due("LOAD", x.of(0, 5), 100);
    }

    static void giveOfNoSuchThingOrToNoSuchPersonIsNoNumber(Check c) {
        Lift x = some();
        for (int t : Check.of(-1, 3, 7, LEAST, MOST)) {
            c.refuses(x, "give(" + t + ", 0)", o -> o.give(t, 0), -1001);
            c.refuses(x, "give(" + t + ", -1)", o -> o.give(t, -1), -1001);
        }
        for (int p : Check.of(-2, -5, 3, 4, LEAST, MOST)) {
            c.refuses(x, "give(0, " + p + ")", o -> o.give(0, p), -1001);
        }
        c.due("the last one", x.give(2, 2), -5);
        c.due("the last one's", x.at(2, 1), 2);
        Lift y = new Lift();
        y.thing(1);
        c.refuses(y, "give(0, 0) without PEOPLE", o -> o.give(0, 0), -1001);
        c.asks(y, "give(0, -1) without PEOPLE", o -> o.give(0, -1), -5);
    }

    // ---- promise 11: like

    static void likeOfTheFirstAndTheLast(Check c) {
        Lift x = all();
        Check.land(x, "like 5 p=0&t=0;like 7 p=3&t=6");
        c.asks(x, "like(0, 0)", o -> o.like(0, 0), 6);
        c.asks(x, "like(3, 6)", o -> o.like(3, 6), 8);
        c.asks(x, "like(3, 0)", o -> o.like(3, 0), 1);
        c.asks(x, "like(0, 6)", o -> o.like(0, 6), 1);
    }

    static void likeOfNoSuchPersonOrThingIsNone(Check c) {
        Lift x = some();
        for (int n : Check.of(-1, 3, 7, LEAST, MOST)) {
            c.refuses(x, "like(" + n + ", 0)", o -> o.like(n, 0), OwnsLift.NONE);
            c.refuses(x, "like(0, " + n + ")", o -> o.like(0, n), OwnsLift.NONE);
            c.refuses(x, "like(" + n + ", " + n + ")", o -> o.like(n, n), OwnsLift.NONE);
        }
        c.due("without THINGS", Check.holders(Check.of(1)).like(0, 0), OwnsLift.NONE);
        c.due("without PEOPLE", Check.holders(Check.of(), 1).like(0, 0), OwnsLift.NONE);
        c.due("a fifth", all().like(4, 0), OwnsLift.NONE);
        c.due("an eighth", all().like(0, 7), OwnsLift.NONE);
    }

    // ---- promise 12: when

    static void theYearIsNoughtAtFirst(Check c) {
        Lift x = some();
        c.asks(x, "when()", o -> o.when(), 0);
        x.year();
        c.asks(x, "when()", o -> o.when(), 1);
    }

    static void whenTellsTheYearUpToTheLast(Check c) {
        Lift x = some();
        for (int n = 1; n <= 99; n++) {
            x.year();
            c.due("when()", x.when(), n);
        }
        x.year();
        c.asks(x, "when() behind a refused year()", o -> o.when(), 99);
    }
}
