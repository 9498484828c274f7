/** The boundary cases of THE TAPE and of LANDS: "Terms" 1, promises 2 and 3. See SENTENCES.txt. */
public final class LandEdgesTest {
    /** A LAND of 100 signs, and one without the last of these. */
    private static final String HUNDRED = "like 15 p=3|" + "p=3|".repeat(21) + "p<10";

    public static void main(String[] args) throws IllegalAccessException {
        Edges.run(LandEdgesTest.class);
    }

    /** The text is no LAND: the FAULT is at that place, THE TAPE is empty then and there is no LAND. */
    private static void fault(Check c, String text, int place) {
        Lift x = one();
        c.due("land() of '" + text + "'", Check.land(x, text), -10 - place);
        c.due("signs behind '" + text + "'", x.count(4), 0);
        c.due("LANDS behind '" + text + "'", x.count(2), 0);
        c.due("LIKE behind '" + text + "'", x.like(0, 0), 1);
    }

    private static void good(Check c, String text) {
        Lift x = one();
        c.due("land() of '" + text + "'", Check.land(x, text), 0);
        c.due("signs behind '" + text + "'", x.count(4), 0);
        c.due("LANDS behind '" + text + "'", x.count(2), 1);
    }

    /** One HOLDER of STRENGTH 7, one THING of WEIGHT 0. */
    private static Lift one() {
        return Check.holders(Check.of(7), 0);
    }

    /** What LIKE, more than 1, that one has for the THING in that YEAR under "like 9 " and E: 9 or 0. */
    private static int liked(String e, int person, int thing, int kind, int age, int weight, int year) {
        Lift x = new Lift();
        for (int p = 0; p <= person; p++) {
            x.person(p == person ? kind : 0, 0, 0, p == person ? age : 0);
        }
        for (int t = 0; t <= thing; t++) {
            x.thing(t == thing ? weight : 0);
        }
        for (int y = 0; y < year; y++) {
            x.year();
        }
        return Check.land(x, "like 9 " + e) != 0 ? -1 : x.like(person, thing) - 1;
    }

    // ---- promise 2: feed

    static void feedTakesTheFirstAndTheLastSign(Check c) {
        Lift x = new Lift();
        c.due("feed(0)", x.feed(0), 1);
        c.due("feed(127)", x.feed(127), 2);
        c.due("count(4)", x.count(4), 2);
    }

    static void feedBelowTheFirstSignIsBad(Check c) {
        Lift x = one();
        Check.feed(x, "lift 5 p=0");
        c.refuses(x, "feed(-1)", o -> o.feed(-1), OwnsLift.BAD);
        c.refuses(x, "feed(-128)", o -> o.feed(-128), OwnsLift.BAD);
        c.refuses(x, "feed of the least int", o -> o.feed(Integer.MIN_VALUE), OwnsLift.BAD);
        c.due("the next sign", x.feed('0'), 11);
    }

    static void feedAboveTheLastSignIsBad(Check c) {
        Lift x = one();
        Check.feed(x, "lift 5 p=0");
        c.refuses(x, "feed(128)", o -> o.feed(128), OwnsLift.BAD);
        c.refuses(x, "feed(255)", o -> o.feed(255), OwnsLift.BAD);
        c.refuses(x, "feed(256 + ';')", o -> o.feed(256 + ';'), OwnsLift.BAD);
        c.refuses(x, "feed of the most int", o -> o.feed(Integer.MAX_VALUE), OwnsLift.BAD);
        c.due("the next sign", x.feed('0'), 11);
    }

    static void feedTellsHowManySignsThereAre(Check c) {
        Lift x = new Lift();
        for (int n = 1; n <= 100; n++) {
            c.due("feed " + n, x.feed(n), n);
        }
        c.due("count(4)", x.count(4), 100);
    }

    static void theHundredthSignIsTaken(Check c) {
        Lift x = Check.holders(Check.of(7, 7), 0);
        Check.feed(x, HUNDRED.substring(0, 99));
        c.due("the hundredth", x.feed('0'), 100);
        c.due("land()", x.land(), 0);
        c.due("p<10", x.like(1, 0), 16);
        Lift y = Check.holders(Check.of(7, 7), 0);
        Check.feed(y, HUNDRED.substring(0, 99));
        c.due("land() without it", y.land(), 0);
        c.due("p<1", y.like(1, 0), 1);
    }

    static void aSignBehindTheHundredthIsFull(Check c) {
        Lift x = one();
        Check.feed(x, HUNDRED);
        c.refuses(x, "feed('9')", o -> o.feed('9'), OwnsLift.FULL);
        c.refuses(x, "feed(0)", o -> o.feed(0), OwnsLift.FULL);
        c.refuses(x, "feed(127)", o -> o.feed(127), OwnsLift.FULL);
        c.due("count(4)", x.count(4), 100);
        c.due("land()", x.land(), 0);
        c.due("the LAND", x.like(0, 0), 16);
    }

    static void feedNamesBadAheadOfFull(Check c) {
        Lift x = one();
        Check.feed(x, HUNDRED);
        c.refuses(x, "feed(-1)", o -> o.feed(-1), OwnsLift.BAD);
        c.refuses(x, "feed(128)", o -> o.feed(128), OwnsLift.BAD);
    }

    static void feedBeginsAnewBehindALandAndAFault(Check c) {
        Lift x = one();
        Check.land(x, HUNDRED);
        c.due("behind a LAND of 100", x.feed('x'), 1);
        c.due("a FAULT", x.land(), -10);
        c.due("behind a FAULT", x.feed('i'), 1);
        Check.feed(x, "ll 3 p=0");
        c.due("land()", x.land(), 1);
        c.due("ILL", x.of(0, 7), 3);
    }

    // ---- promise 3: land

    static void landOfAnEmptyTapeIsAFaultAtItsSize(Check c) {
        Lift x = one();
        c.refuses(x, "land()", o -> o.land(), -10);
        Check.land(x, "like 9 p=0");
        c.refuses(x, "land() again", o -> o.land(), -10);
        c.due("the LAND holds", x.like(0, 0), 10);
    }

    static void landAnswersItsNumberAndHolds(Check c) {
        Lift x = one();
        c.due("the first", Check.land(x, "like 3 p=0"), 0);
        c.due("holds", x.like(0, 0), 4);
        c.due("the same again is another one", Check.land(x, "like 3 p=0"), 1);
        c.due("holds once", x.like(0, 0), 4);
        c.due("the shortest", Check.land(x, "ill 0 p=0"), 2);
        c.due("holds", x.like(0, 0), 1);
        c.due("the longest", Check.land(x, HUNDRED), 3);
        c.due("holds", x.like(0, 0), 16);
        c.due("the last", Check.land(x, "like 8 p=0"), 4);
        c.due("holds", x.like(0, 0), 9);
    }


    static void aLandEmptiesTheTape(Check c) {
        Lift x = one();
        c.due("land()", Check.land(x, "like 9 p=0"), 0);
        c.due("count(4)", x.count(4), 0);
        c.due("nothing is left of it", x.land(), -10);
        c.due("its end is left of neither", Check.land(x, "like 8 p="), -19);
    }

    static void aFaultEmptiesTheTape(Check c) {
        Lift x = one();
        c.due("land()", Check.land(x, "like 9 p=0;"), -21);
        c.due("count(4)", x.count(4), 0);
        c.due("nothing is left of it", x.land(), -10);
        c.due("the next begins anew", Check.land(x, "like 4 p=0"), 0);
        c.due("and holds", x.like(0, 0), 5);
    }

    static void behindAFaultTheOneThatHeldHolds(Check c) {
        Lift x = one();
        c.refuses(x, "a FAULT without a LAND", o -> Check.land(o, "like 5 p=0;lift"), -25);
        Check.land(x, "like 9 p=0;lift 3 p=0;ill 2 p=0");
        c.refuses(x, "a FAULT at 0", o -> Check.land(o, "x"), -10);
        c.refuses(x, "a FAULT behind a CLAUSE", o -> Check.land(o, "like 5 p=0;lift 4 p=0;like 2 p=00"), -42);
        c.due("LIKE", x.like(0, 0), 10);
        c.due("LIFTS", x.of(0, 4), 10);
        c.due("ILL", x.of(0, 7), 2);
        c.due("the next LAND's number", Check.land(x, "ill 1 p=1"), 1);
    }

    static void landsAreNumberedFromNoughtAndFiveAreKept(Check c) {
        Lift x = one();
        for (int n = 0; n < 5; n++) {
            c.due("LANDS ahead of the next", x.count(2), n);
            c.due("land()", Check.land(x, "like " + n + " p=0"), n);
            c.due("holds", x.like(0, 0), n + 1);
        }
        c.due("LANDS", x.count(2), 5);
    }

    private static Lift five() {
        Lift x = one();
        for (int n = 1; n <= 5; n++) {
            Check.land(x, "lift " + n + " p=0");
        }
        return x;
    }

    static void aSixthLandIsFullAndTheTapeStays(Check c) {
        Lift x = five();
        Check.feed(x, "like 9 p=0");
        c.refuses(x, "land()", o -> o.land(), OwnsLift.FULL);
        c.due("THE TAPE", x.count(4), 10);
        c.due("LANDS", x.count(2), 5);
        c.due("the fifth holds", x.of(0, 4), 12);
        c.due("and likes nothing", x.like(0, 0), 1);
        c.due("THE TAPE can be fed", x.feed('1'), 11);
    }

    static void theTapeStaysBehindFullAndCanBeFedTillItIsFull(Check c) {
        Lift x = five();
        for (int n = 1; n <= 100; n++) {
            c.due("feed", x.feed('a'), n);
            if (n % 20 == 0) {
                c.due("land()", x.land(), OwnsLift.FULL);
                c.due("signs", x.count(4), n);
            }
        }
        c.due("one more", x.feed('a'), OwnsLift.FULL);
    }


    static void fullIsAheadOfEveryFault(Check c) {
        Lift x = five();
        c.refuses(x, "land() of an empty TAPE", o -> o.land(), OwnsLift.FULL);
        Check.feed(x, "x");
        c.refuses(x, "land() of a FAULT", o -> o.land(), OwnsLift.FULL);
        Check.feed(x, "y".repeat(99));
        c.refuses(x, "land() of a full TAPE", o -> o.land(), OwnsLift.FULL);
        c.due("which stays full", x.feed('a'), OwnsLift.FULL);
    }

    static void aFaultTakesNoNumberOfALand(Check c) {
        Lift x = one();
        for (int n = 0; n < 5; n++) {
            for (int faults = 0; faults < 3; faults++) {
                c.due("a FAULT", Check.land(x, "ill 1 p"), -17);
            }
            c.due("land()", Check.land(x, "ill 1 p=0"), n);
        }
        Check.feed(x, "ill 1 p");
        c.due("a sixth", x.land(), OwnsLift.FULL);
    }

    static void theNewestLandAloneHolds(Check c) {
        Lift x = Check.holders(Check.of(7), 20);
        Check.land(x, "like 9 p=0;lift 9 p=0;ill 9 p=0;wear 9 t=0");
        c.due("LIKE of the first", x.like(0, 0), 10);
        Check.land(x, "like 2 p=1");
        c.due("LIKE", x.like(0, 0), 1);
        c.due("LIFTS", x.of(0, 4), 7);
        c.due("ILL", x.of(0, 7), 0);
        x.year();
        c.due("no wear", x.at(0, 0), 20);
    }

    static void withoutALandThereAreNoClauses(Check c) {
        Lift x = Check.holders(Check.of(7), 20);
        x.give(0, 0);
        c.due("LIKE", x.like(0, 0), 1);
        c.due("LIFTS", x.of(0, 4), 7);
        c.due("ILL", x.of(0, 7), 0);
        x.year();
        c.due("no wear", x.at(0, 0), 20);
    }

    // ---- CLAUSES

    static void tenClausesAreALand(Check c) {
        Lift x = one();
        c.due("ten", Check.land(x, "ill 1 p=1;".repeat(9) + "ill 7 p=0"), 0);
        c.due("the tenth holds", x.of(0, 7), 7);
        Check.land(x, "ill 1 p=0;".repeat(9) + "ill 1 p=0");
        c.due("all ten hold, together", x.of(0, 7), 10);
        Check.land(x, "ill 1 p=0;".repeat(8) + "ill 0 p=0");
        c.due("nine are a LAND, too", x.of(0, 7), 8);
    }

    static void behindTenClausesASemicolonIsTheFault(Check c) {
        fault(c, "ill 1 p=1;".repeat(10), 99);
        fault(c, "ill 1 p=1;".repeat(9) + "ill 1 p=1:", 99);
        fault(c, "ill 1 p=1;".repeat(9), 90);
        fault(c, "ill 1 p=1;".repeat(9) + "ill 1 p=", 98);
    }

    static void oneClauseAtLeast(Check c) {
        fault(c, "", 0);
        fault(c, ";", 0);
        fault(c, " ", 0);
        good(c, "ill 1 p=1");
    }

    static void betweenClausesStandsOneSemicolon(Check c) {
        good(c, "ill 1 p=1;ill 1 p=1");
        fault(c, "ill 1 p=1ill 1 p=1", 9);
        fault(c, "ill 1 p=1,ill 1 p=1", 9);
        fault(c, "ill 1 p=1:ill 1 p=1", 9);
        fault(c, "ill 1 p=1;;ill 1 p=1", 10);
        fault(c, "ill 1 p=1; ill 1 p=1", 10);
        fault(c, "ill 1 p=1 ;ill 1 p=1", 9);
        fault(c, "ill 1 p=1\nill 1 p=1", 9);
    }

    static void noSemicolonAheadOfTheFirstOrBehindTheLastClause(Check c) {
        fault(c, ";ill 1 p=1", 0);
        fault(c, "ill 1 p=1;", 10);
        fault(c, "ill 1 p=1;ill 1 p=1;", 20);
    }

    static void theFourWordsAndNoOther(Check c) {
        good(c, "like 1 p=1");
        good(c, "lift 1 p=1");
        good(c, "wear 1 p=1");
        good(c, "ill 1 p=1");
        fault(c, "Like 1 p=1", 0);
        fault(c, "lIke 1 p=1", 1);
        fault(c, "love 1 p=1", 1);
        fault(c, "lick 1 p=1", 2);
        fault(c, "life 1 p=1", 3);
        fault(c, "likt 1 p=1", 3);
        fault(c, "wife 1 p=1", 1);
        fault(c, "weak 1 p=1", 3);
        fault(c, "kill 1 p=1", 0);
        fault(c, "ilk 1 p=1", 2);
        fault(c, "illl 1 p=1", 3);
        fault(c, "liked 1 p=1", 4);
        fault(c, "lifts 1 p=1", 4);
        fault(c, "wears 1 p=1", 4);
        fault(c, "ill 1 p=1;x", 10);
        fault(c, "ill 1 p=1;lix", 12);
    }

    static void aWordThatEndsTooEarly(Check c) {
        for (String word : new String[] {"like", "lift", "wear", "ill"}) {
            for (int size = 1; size <= word.length(); size++) {
                fault(c, word.substring(0, size), size);
                fault(c, "ill 1 p=1;" + word.substring(0, size), 10 + size);
            }
        }
    }

    static void oneBlankAheadOfEachPartBehindTheWord(Check c) {
        fault(c, "like1 p=1", 4);
        fault(c, "like  1 p=1", 5);
        fault(c, "like\t1 p=1", 4);
        fault(c, "like 1p=1", 6);
        fault(c, "like 1  p=1", 7);
        fault(c, "like 12p=1", 7);
        fault(c, "like 12  p=1", 8);
        fault(c, "ill1 p=1", 3);
        fault(c, "ill  1 p=1", 4);
    }

    static void noBlankAnywhereElse(Check c) {
        fault(c, " like 1 p=1", 0);
        fault(c, "li ke 1 p=1", 2);
        fault(c, "like 1 p =1", 8);
        fault(c, "like 1 p= 1", 9);
        fault(c, "like 1 p=1 ", 10);
        fault(c, "like 1 p=1 &p=1", 10);
        fault(c, "like 1 p=1& p=1", 11);
        fault(c, "like 1 p=1| p=1", 11);
        fault(c, "like 1 ! p=1", 8);
        fault(c, "like 1 ( p=1)", 8);
        fault(c, "like 1 (p=1 )", 11);
    }

    static void nHasOneOrTwoDigits(Check c) {
        for (int n : Check.of(0, 1, 9, 10, 11, 98, 99)) {
            Lift x = one();
            c.due("like " + n, Check.land(x, "like " + n + " p=0"), 0);
            c.due("LIKE of " + n, x.like(0, 0), n + 1);
        }
        fault(c, "like 100 p=0", 7);
        fault(c, "like 999 p=0", 7);
        fault(c, "like  p=0", 5);
        fault(c, "like p=0", 5);
        fault(c, "like -1 p=0", 5);
        fault(c, "like +1 p=0", 5);
        fault(c, "like 1.0 p=0", 6);
    }

    static void noDigitIsASignBesideTheDigits(Check c) {
        fault(c, "like / p=0", 5);
        fault(c, "like : p=0", 5);
        fault(c, "like 1/ p=0", 6);
        fault(c, "like 1: p=0", 6);
        fault(c, "like 1 p=/", 9);
        fault(c, "like 1 p=:", 9);
        fault(c, "like 1 p=1/", 10);
        fault(c, "like 1 p=1:", 10);
    }

    static void noNoughtAheadOfAnotherDigit(Check c) {
        fault(c, "like 00 p=0", 6);
        fault(c, "like 01 p=0", 6);
        fault(c, "like 09 p=0", 6);
        fault(c, "like 000 p=0", 6);
        fault(c, "ill 05 p=0", 5);
        good(c, "like 0 p=0");
        good(c, "like 10 p=0");
    }

    static void aNumberOfATestLikewise(Check c) {
        for (int n : Check.of(0, 1, 9, 10, 98, 99)) {
            good(c, "like 1 p=" + n);
            good(c, "like 1 w<" + n + "&y>" + n);
        }
        fault(c, "like 1 p=100", 11);
        fault(c, "like 1 p=00", 10);
        fault(c, "like 1 p=01", 10);
        fault(c, "like 1 p=", 9);
        fault(c, "like 1 p=-1", 9);
        fault(c, "like 1 p=x", 9);
        fault(c, "like 1 p=;", 9);
        c.due("p < 10", liked("p<10", 3, 0, 0, 0, 0, 0), 9);
        c.due("a = 9", liked("a=9", 0, 0, 0, 99, 0, 0), 9);
        c.due("p < 99", liked("p<99", 3, 0, 0, 0, 0, 0), 9);
        c.due("p > 0 of 0", liked("p>0", 0, 0, 0, 0, 0, 0), 0);
        c.due("p > 0 of 1", liked("p>0", 1, 0, 0, 0, 0, 0), 9);
    }

    static void aTestOfNoughtAndOfNinetyNine(Check c) {
        for (char letter : "pkatwy".toCharArray()) {
            for (int sign = 0; sign < 3; sign++) {
                String test = "" + letter + "<=>".charAt(sign);
                c.due(test + "0 of 0", liked(test + "0", 0, 0, 0, 9, 9, 0), sign == 1 ? 9 : 0);
                c.due("!" + test + "0 of 0", liked("!" + test + "0", 0, 0, 0, 9, 9, 0), sign == 1 ? 0 : 9);
                c.due(test + "0 of more", liked(test + "0", 1, 1, 2, 34, 25, 4), sign == 2 ? 9 : 0);
                c.due("!" + test + "0 of more", liked("!" + test + "0", 1, 1, 2, 34, 25, 4), sign == 2 ? 0 : 9);
                c.due(test + "99 of less", liked(test + "99", 1, 1, 2, 34, 25, 4), sign == 0 ? 9 : 0);
                c.due("!" + test + "99 of 0", liked("!" + test + "99", 0, 0, 0, 9, 9, 0), sign == 0 ? 0 : 9);
                c.due("p=0&" + test + "0", liked("p=0&" + test + "0", 0, 0, 0, 9, 9, 0), sign == 1 ? 9 : 0);
                c.due("p=9|" + test + "0", liked("p=9|" + test + "0", 0, 0, 0, 9, 9, 0), sign == 1 ? 9 : 0);
            }
        }
    }

    // ---- E, T, F

    static void eIsOneTOrSeveral(Check c) {
        good(c, "like 1 p=1|p=1");
        good(c, HUNDRED);
        fault(c, "like 1 ", 7);
        fault(c, "like 1 |p=1", 7);
        fault(c, "like 1 p=1|", 11);
        fault(c, "like 1 p=1||p=1", 11);
        fault(c, "like 1 p=1|&p=1", 11);
        fault(c, "like 1 p=1|;", 11);
        fault(c, "like 1 (p=1|)", 12);
        fault(c, "like 1 (|p=1)", 8);
    }

    static void tIsOneFOrSeveral(Check c) {
        good(c, "like 1 p=1&p=1");
        good(c, "like 15 p=0&" + "p=1&".repeat(21) + "p=1");
        fault(c, "like 1 &p=1", 7);
        fault(c, "like 1 p=1&", 11);
        fault(c, "like 1 p=1&&p=1", 11);
        fault(c, "like 1 p=1&|p=1", 11);
        fault(c, "like 1 p=1&;", 11);
        fault(c, "like 1 (p=1&)", 12);
        fault(c, "like 1 (&p=1)", 8);
    }

    static void aLongEHoldsByItsLastT(Check c) {
        Lift x = one();
        Check.land(x, "like 15 " + "p=1|".repeat(22) + "p=0");
        c.due("the last of 23", x.like(0, 0), 16);
        Check.land(x, "like 15 p=0|" + "p=1|".repeat(21) + "p=1");
        c.due("the first of 23", x.like(0, 0), 16);
        Check.land(x, "like 15 " + "p=1|".repeat(22) + "p=1");
        c.due("none of 23", x.like(0, 0), 1);
    }

    static void aLongTFailsByItsLastF(Check c) {
        Lift x = one();
        Check.land(x, "like 15 " + "p=0&".repeat(22) + "p=0");
        c.due("all of 23", x.like(0, 0), 16);
        Check.land(x, "like 15 " + "p=0&".repeat(22) + "p=1");
        c.due("not the last of 23", x.like(0, 0), 1);
        Check.land(x, "like 15 p=1&" + "p=0&".repeat(21) + "p=0");
        c.due("not the first of 23", x.like(0, 0), 1);
    }

    static void andBindsAheadOfOr(Check c) {
        Lift x = one();
        String[] hold = {"p=0|p=0&p=1", "p=1&p=0|p=0", "p=0|p=1&p=1", "!p=1|p=0&p=1", "!p=1&p=0"};
        String[] fail = {"(p=0|p=0)&p=1", "p=1&(p=0|p=0)", "(p=0|p=1)&p=1", "!(p=1|p=0)&p=0", "!p=0|p=1", "!(p=1|p=0)"};
        for (int i = 0; i < 5; i++) {
            x.image();
            Check.land(x, "like 9 " + hold[i]);
            c.due(hold[i], x.like(0, 0), 10);
            x.undo();
        }
        for (String e : fail) {
            x.image();
            Check.land(x, "like 9 " + e);
            c.due(e, x.like(0, 0), 1);
            x.undo();
        }
    }

    static void fIsNoEmptyThing(Check c) {
        fault(c, "like 1 !", 8);
        fault(c, "like 1 !&p=1", 8);
        fault(c, "like 1 !)", 8);
        fault(c, "like 1 ()", 8);
        fault(c, "like 1 )", 7);
        fault(c, "like 1 (", 8);
        fault(c, "like 1 (p=1", 11);
        fault(c, "like 1 (p=1;", 11);
        fault(c, "like 1 p=1)", 10);
        fault(c, "like 1 (p=1))", 12);
        fault(c, "like 1 ((p=1)", 13);
        fault(c, "like 1 p=1!p=1", 10);
        fault(c, "like 1 p=1(p=1)", 10);
        fault(c, "like 1 (p=1)p=1", 12);
        good(c, "like 1 (p=1)");
        good(c, "like 1 !p=1");
        good(c, "like 1 !(p=1)&(!p=1)");
    }

    static void aTestHasOneOfSixLetters(Check c) {
        for (char letter = 0; letter < 128; letter++) {
            String text = "like 1 " + letter + "=1";
            if ("pkatwy".indexOf(letter) >= 0) {
                good(c, text);
            } else if (letter != '!' && letter != '(') {
                fault(c, text, 7);
            }
        }
    }

    static void aTestHasOneOfThreeSigns(Check c) {
        for (char sign = 0; sign < 128; sign++) {
            String text = "like 1 p" + sign + "1";
            if ("<=>".indexOf(sign) >= 0) {
                good(c, text);
            } else {
                fault(c, text, 8);
            }
        }
        fault(c, "like 1 p<=1", 9);
        fault(c, "like 1 p==1", 9);
        fault(c, "like 1 p", 8);
        fault(c, "like 1 p=", 9);
    }

    static void lessAndMoreAreNotAsMuch(Check c) {
        int[] due = {0, 9, 0};
        for (int i = 0; i < 3; i++) {
            String sign = "<=>".substring(i, i + 1);
            c.due("p" + sign + "2 of 1", liked("p" + sign + "2", 1, 0, 0, 0, 0, 0), i == 0 ? 9 : 0);
            c.due("p" + sign + "2 of 2", liked("p" + sign + "2", 2, 0, 0, 0, 0, 0), due[i]);
            c.due("p" + sign + "2 of 3", liked("p" + sign + "2", 3, 0, 0, 0, 0, 0), i == 2 ? 9 : 0);
            c.due("w" + sign + "4 of 39", liked("w" + sign + "4", 0, 0, 0, 0, 39, 0), i == 0 ? 9 : 0);
            c.due("w" + sign + "4 of 40", liked("w" + sign + "4", 0, 0, 0, 0, 40, 0), due[i]);
            c.due("w" + sign + "4 of 50", liked("w" + sign + "4", 0, 0, 0, 0, 50, 0), i == 2 ? 9 : 0);
        }
    }

    static void pIsTheFirstOrTheLastOfThePeople(Check c) {
        for (int p = 0; p < 4; p++) {
            for (int n = 0; n < 5; n++) {
                c.due("p=" + n + " of " + p, liked("p=" + n, p, 0, 0, 0, 0, 0), n == p ? 9 : 0);
            }
        }
    }

    static void kIsTheFirstOrTheLastKind(Check c) {
        for (int k = 0; k < 7; k++) {
            for (int n = 0; n < 8; n++) {
                c.due("k=" + n + " of " + k, liked("k=" + n, 0, 0, k, 0, 0, 0), n == k ? 9 : 0);
            }
        }
    }

    static void aIsAgeByTenCut(Check c) {
        int[] ages = {0, 9, 10, 19, 20, 89, 90, 99};
        int[] due = {0, 0, 1, 1, 2, 8, 9, 9};
        for (int i = 0; i < ages.length; i++) {
            for (int n = 0; n < 11; n++) {
                c.due("a=" + n + " of " + ages[i], liked("a=" + n, 0, 0, 0, ages[i], 0, 0), n == due[i] ? 9 : 0);
            }
        }
    }

    static void tIsTheFirstOrTheLastThing(Check c) {
        for (int t = 0; t < 7; t++) {
            for (int n = 0; n < 8; n++) {
                c.due("t=" + n + " of " + t, liked("t=" + n, 0, t, 0, 0, 0, 0), n == t ? 9 : 0);
            }
        }
    }

    static void wIsWeightByTenCut(Check c) {
        int[] weights = {0, 9, 10, 19, 20, 49, 50};
        int[] due = {0, 0, 1, 1, 2, 4, 5};
        for (int i = 0; i < weights.length; i++) {
            for (int n = 0; n < 7; n++) {
                c.due("w=" + n + " of " + weights[i], liked("w=" + n, 0, 0, 0, 0, weights[i], 0), n == due[i] ? 9 : 0);
            }
        }
    }

    static void yIsYearModuloTen(Check c) {
        int[] years = {0, 1, 9, 10, 11, 19, 20, 98, 99};
        int[] due = {0, 1, 9, 0, 1, 9, 0, 8, 9};
        for (int i = 0; i < years.length; i++) {
            for (int n = 0; n < 12; n++) {
                c.due("y=" + n + " of " + years[i], liked("y=" + n, 0, 0, 0, 0, 0, years[i]), n == due[i] ? 9 : 0);
            }
        }
    }

    static void yIsOfTheYearThatItIsThingsOrNot(Check c) {
        Lift x = new Lift();
        x.person(0, 0, 0, 0);
        Check.land(x, "lift 5 y=1;lift 9 y=0;ill 2 y=1");
        c.due("LIFTS in YEAR 0", x.of(0, 4), 9);
        c.due("ILL in YEAR 0", x.of(0, 7), 0);
        x.year();
        c.due("LIFTS in YEAR 1", x.of(0, 4), 5);
        c.due("ILL in YEAR 1", x.of(0, 7), 2);
        x.thing(0);
        Check.land(x, "like 3 y=1;like 5 y=2");
        c.due("LIKE in YEAR 1", x.like(0, 0), 4);
        x.year();
        c.due("LIKE in YEAR 2", x.like(0, 0), 6);
    }


    static void ofLiftAndIllTAndWAreNinetyNine(Check c) {
        for (String word : new String[] {"lift", "ill"}) {
            int what = word.equals("lift") ? 4 : 7;
            String[] hold = {"t=99", "w=99", "t>98", "w>98", "!t<99", "!w<99", "!t>99", "!w>99", "p=0&k=0&a=4&y=0"};
            String[] fail = {"t=0", "w=0", "w=5", "t<99", "w<99", "t>99", "w>99", "p=99", "k=99", "a=99", "y=99"};
            for (String e : hold) {
                Lift x = aged();
                c.due("land()", Check.land(x, word + " 9 " + e), 0);
                c.due(word + " " + e, x.of(0, what), 9);
            }
            for (String e : fail) {
                Lift x = aged();
                c.due("land()", Check.land(x, word + " 9 " + e), 0);
                c.due(word + " " + e, x.of(0, what), 0);
            }
        }
    }

    /** One HOLDER of STRENGTH 0 and AGE 49, whose is the one THING, of WEIGHT 50. */
    private static Lift aged() {
        Lift x = new Lift();
        x.person(0, 0, 0, 49);
        x.thing(50);
        x.give(0, 0);
        return x;
    }

    static void ofWearPAndKAndAAreNinetyNine(Check c) {
        String[] hold = {"p=99", "k=99", "a=99", "p>98", "k>98", "a>98", "!p<99", "!k<99", "!a<99", "t=0", "w=5", "y=1"};
        String[] fail = {"p=0", "k=0", "a=4", "p<99", "k<99", "a<99", "p>99", "k>99", "a>99", "t=99", "w=99", "y=0"};
        for (String e : hold) {
            Lift x = aged();
            c.due("land()", Check.land(x, "wear 9 " + e), 0);
            x.year();
            c.due("wear " + e, x.at(0, 0), 41);
        }
        for (String e : fail) {
            Lift x = aged();
            c.due("land()", Check.land(x, "wear 9 " + e), 0);
            x.year();
            c.due("wear " + e, x.at(0, 0), 50);
        }
    }

    // ---- what is open

    private static String closed(String openers) {
        StringBuilder s = new StringBuilder("like 1 " + openers + "p=1");
        for (int i = 0; i < openers.length(); i++) {
            s.append(openers.charAt(i) == '(' ? ")" : "");
        }
        return s.toString();
    }

    private static String mix(int bits, int size) {
        StringBuilder s = new StringBuilder();
        for (int i = 0; i < size; i++) {
            s.append((bits >> i & 1) == 1 ? '(' : '!');
        }
        return s.toString();
    }

    static void fiveMayBeOpen(Check c) {
        for (int bits = 0; bits < 32; bits++) {
            good(c, closed(mix(bits, 5)));
        }
    }

    static void aSixthOpenOneIsTheFault(Check c) {
        for (int bits = 0; bits < 64; bits++) {
            fault(c, closed(mix(bits, 6)), 12);
        }
        fault(c, "like 1 !!!!!!!", 12);
        fault(c, "like 1 ((((((((", 12);
        fault(c, "ill 9 p=1;like 1 ((((((p=1))))))", 22);
    }

    static void aBracketIsOpenTillItsEnd(Check c) {
        good(c, "like 1 (((((p=1)))))&(((((p=1)))))|(((((p=1)))))");
        good(c, "like 1 ((((p=1&(p=1)|(p=1)))))");
        good(c, "like 1 ((((p=1&!p=1|!p=1))))");
        fault(c, "like 1 ((((p=1&((p=1)))))", 16);
        fault(c, "like 1 ((((p=1&(!p=1)))))", 16);
        fault(c, "like 1 ((((p=1&!(p=1)))))", 16);
        fault(c, "like 1 (((((p=1&!p=1)))))", 16);
        fault(c, "like 1 (((((p=1&(p=1))))))", 16);
        good(c, "like 1 ((((p=1)))&(((p=1&(p=1)))))");
    }

    static void aNotIsOpenTillItsFEnds(Check c) {
        good(c, "like 1 !!!!!p=1&!!!!!p=1|!!!!!p=1");
        good(c, "like 1 !(p=1)&!!!!!p=1");
        good(c, "like 1 !!!!(p=1&p=1)&!!!!(p=1)");
        good(c, "like 1 !(p=1&!!!p=1|!(!p=1))");
        fault(c, "like 1 !(p=1&!!!p=1|!(!(p=1)))", 23);
        fault(c, "like 1 !(p=1&!!!!p=1)", 16);
        fault(c, "like 1 !!!!(p=1&!p=1)", 16);
        fault(c, "like 1 !!!!(p=1&(p=1))", 16);
        good(c, "like 1 !!!(p=1&!p=1&(p=1))");
        good(c, "like 1 (!p=1&!p=1&!p=1&!p=1&!p=1&!p=1&!p=1)");
    }

    static void manyNotsTurnRoundEachTime(Check c) {
        for (int n = 0; n <= 5; n++) {
            Lift x = one();
            Check.land(x, "like 9 " + "!".repeat(n) + "p=0");
            c.due(n + " of !", x.like(0, 0), n % 2 == 0 ? 10 : 1);
        }
    }

    // ---- FAULT

    private static final String WHOLE = "like 12 !(p<10|k=0)&a>9;wear 0 y=1;lift 99 !!t=7;ill 9 ((w>3))";

    static void whatEndsTooEarlyHasItsSizeAsFault(Check c) {
        for (int size = 0; size < WHOLE.length(); size++) {
            String text = WHOLE.substring(0, size);
            c.due("land() of '" + text + "'", Check.land(new Lift(), text), isLand(size) ? 0 : -10 - size);
        }
        good(c, WHOLE);
    }

    /** The sizes at which a start of WHOLE is a LAND itself. */
    private static boolean isLand(int size) {
        for (String land : new String[] {"like 12 !(p<10|k=0)", "like 12 !(p<10|k=0)&a>9",
            "like 12 !(p<10|k=0)&a>9;wear 0 y=1", "like 12 !(p<10|k=0)&a>9;wear 0 y=1;lift 99 !!t=7", WHOLE}) {
            if (land.length() == size) {
                return true;
            }
        }
        return false;
    }

    static void theFaultIsTheFirstByteThatCannotGoOn(Check c) {
        for (int size = 0; size <= WHOLE.length(); size++) {
            fault(c, WHOLE.substring(0, size) + "#", size);
            fault(c, WHOLE.substring(0, size) + (char) 0 + "like", size);
            fault(c, WHOLE.substring(0, size) + (char) 127, size);
        }
    }

    static void theFirstOfSeveralFaultsIsTold(Check c) {
        fault(c, "like 1 p=1 ;; x", 10);
        fault(c, "xlike 01 q=1", 0);
        fault(c, "like 01 q=001", 6);
    }

    static void theFaultAtTheFirstAndTheLastPlace(Check c) {
        fault(c, "#".repeat(100), 0);
        fault(c, HUNDRED.substring(0, 99) + "#", 99);
        fault(c, HUNDRED.substring(0, 98) + "##", 98);
        fault(c, "like 150 " + "p=1|".repeat(22) + "p=0", 7);
        fault(c, "like 1 " + "p=1|".repeat(23) + "!", 100);
        fault(c, "like 1 " + "p=1|".repeat(23) + "p", 100);
        fault(c, "like 1 p=10|" + "p=1|".repeat(22), 100);
    }

    // ---- LIKE, LIFTS, ILL

    private static final String EIGHT = "99 p<9;";

    private static String eight(String word) {
        String all = (word + " " + EIGHT).repeat(8);
        return all.substring(0, all.length() - 1);
    }

    static void likeIsOneAtLeastAndHasNoMost(Check c) {
        Lift x = one();
        c.due("no LAND", x.like(0, 0), 1);
        Check.land(x, "like 0 p=0;like 99 p=1;lift 9 p=0;ill 9 p=0;wear 9 p=0");
        c.due("none holds", x.like(0, 0), 1);
        Check.land(x, eight("like"));
        c.due("eight times 99", x.like(0, 0), 793);
        c.due("BEST of it", x.best(-1), 793);
    }

    static void liftsGoAboveWhatStrengthCan(Check c) {
        Lift x = new Lift();
        x.person(0, 9, 99, 0);
        x.person(3, 9, 99, 0);
        x.person(6, 9, 99, 0);
        x.person(3, 0, 0, 0);
        c.due("HOLDER", x.of(0, 4), 99);
        c.due("LENDING", x.of(1, 4), 108);
        c.due("TOLD", x.of(2, 4), 108);
        c.due("nothing", x.of(3, 4), 0);
        Check.land(x, eight("lift"));
        c.due("HOLDER", x.of(0, 4), 891);
        c.due("LENDING", x.of(1, 4), 900);
        c.due("TOLD", x.of(2, 4), 900);
        c.due("STRENGTH stays", x.of(0, 2), 99);
    }

    static void illIsTenAtMost(Check c) {
        for (int n : Check.of(0, 1, 9, 10, 11, 99)) {
            Lift x = one();
            Check.land(x, "ill " + n + " p=0");
            c.due("ILL of " + n, x.of(0, 7), Math.min(n, 10));
        }
        Lift y = one();
        Check.land(y, "ill 5 p=0;ill 4 p<9");
        c.due("ILL of 9 together", y.of(0, 7), 9);
        Check.land(y, "ill 5 p=0;ill 5 p<9");
        c.due("ILL of 10 together", y.of(0, 7), 10);
        Check.land(y, "ill 5 p=0;ill 6 p<9");
        c.due("ILL of 11 together", y.of(0, 7), 10);
        Check.land(y, eight("ill"));
        c.due("ILL of 792 together", y.of(0, 7), 10);
    }
}
