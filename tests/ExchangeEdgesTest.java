import java.util.Random;

/** The boundary cases of exchanges and partings: "Terms" 3, promises 21 to 25. See SENTENCES.txt. */
public final class ExchangeEdgesTest {
    private static final int LEAST = Integer.MIN_VALUE;
    private static final int MOST = Integer.MAX_VALUE;

    public static void main(String[] args) throws IllegalAccessException {
        Edges.run(ExchangeEdgesTest.class);
    }

    // ---- promise 21: SWAP

    private static void swap(Check c, String what, Lift x, int number, int first) {
        c.asks(x, what + ", how many", o -> o.swap(0), number);
        c.asks(x, what + ", the first", o -> o.swap(1), first);
    }

    /** Two HOLDERS of those STRENGTHS; 0 has THING 0 of WEIGHT 5, 1 has THING 1 of WEIGHT 8; each likes the other's by 1 more. */
    private static Lift two(int one, int other) {
        Lift x = Check.holders(Check.of(one, other), 5, 8);
        Check.owners(x, 0, 1);
        Check.land(x, "like 1 p=0&t=1;like 1 p=1&t=0");
        return x;
    }

    static void swapTellsNoneAsNoughtAndMinusFive(Check c) {
        swap(c, "nobody and nothing", new Lift(), 0, -5);
        swap(c, "nobody", Check.holders(Check.of(), 1, 1), 0, -5);
        swap(c, "nothing", Check.holders(Check.of(9, 9)), 0, -5);
        swap(c, "one alone", Check.holders(Check.of(9), 1, 1), 0, -5);
        swap(c, "one", two(9, 9), 1, 1);
    }

    static void aSwapIsOfThingsOfTwoPeople(Check c) {
        Lift x = two(9, 9);
        x.give(1, -1);
        swap(c, "nobody's and one's", x, 0, -5);
        Check.owners(x, -1, 1);
        swap(c, "one's and nobody's", x, 0, -5);
        Check.owners(x, -1, -1);
        swap(c, "nobody's both", x, 0, -5);
        Check.owners(x, 1, 1);
        swap(c, "the same one's", x, 0, -5);
        Check.owners(x, 1, 0);
        swap(c, "both have what they like", x, 0, -5);
    }

    static void bothHaveMoreLikeAndNotAsMuch(Check c) {
        Lift x = two(9, 9);
        swap(c, "both by one more", x, 1, 1);
        Check.land(x, "like 1 p=0&t=1");
        swap(c, "1 has as much", x, 0, -5);
        Check.land(x, "like 1 p=1&t=0");
        swap(c, "0 has as much", x, 0, -5);
        Check.land(x, "like 1 p=0&t=0;like 1 p=1&t=0");
        swap(c, "0 has less", x, 0, -5);
        Check.land(x, "like 1 p=0&t=1;like 1 p=1&t=1");
        swap(c, "1 has less", x, 0, -5);
    }

    static void neitherIsOverBehindIt(Check c) {
        swap(c, "8 of 8 and 5 of 5", two(8, 5), 1, 1);
        swap(c, "8 of 7", two(7, 5), 0, -5);
        swap(c, "5 of 4", two(8, 4), 0, -5);
        Lift x = two(10, 9);
        x.thing(3);
        x.give(2, 0);
        swap(c, "11 of 10", x, 0, -5);
        x.strength(0, 11);
        swap(c, "11 of 11", x, 1, 1);
    }

    static void whoIsOverNowMaySwap(Check c) {
        swap(c, "1 was OVER, 8 of 5", two(8, 5), 1, 1);
        Lift x = two(8, 9);
        x.strength(0, 4);
        swap(c, "0 would be OVER more", x, 0, -5);
        x.strength(0, 8);
        x.thing(50);
        x.give(2, 1);
        swap(c, "1 is OVER behind it, too", x, 0, -5);
    }

    static void whatWeighsNothingIsSwappedAsWell(Check c) {
        Lift x = Check.holders(Check.of(0, 0), 0, 0, 1);
        Check.owners(x, 0, 1);
        Check.land(x, "like 1 p=0&t=1;like 1 p=1&t=0;like 9 p=0&t=2");
        swap(c, "0 of 0 both", x, 1, 1);
        c.asks(x, "one", o -> o.rest(), 1);
        x.give(2, 1);
        swap(c, "1 is OVER, and is behind it", x, 0, -5);
        x.strength(1, 1);
        swap(c, "1 of 1", x, 1, 1);
    }

    static void theFirstIsByTheLesserThingThenByTheOther(Check c) {
        Lift x = Check.holders(Check.of(99, 99), 1, 1, 1, 1, 1, 1, 1);
        Check.owners(x, 0, 0, 0, -1, 1, 1, 1);
        Check.land(x, "like 1 p=0&t>3;like 1 p=1&t<3");
        swap(c, "all", x, 9, 4);
        x.give(4, -1);
        swap(c, "without 4", x, 6, 5);
        x.give(0, -1);
        swap(c, "without 0", x, 4, 15);
        x.give(5, -1);
        swap(c, "without 5", x, 2, 16);
        x.give(1, -1);
        swap(c, "without 1", x, 1, 26);
        x.give(2, 1);
        x.give(6, 0);
        swap(c, "the other way round", x, 0, -5);
    }

    static void theLesserThingMayBeOfTheLaterOne(Check c) {
        Lift x = Check.holders(Check.of(9, 9, 9, 9), 1, 1, 1, 1, 1, 1, 1);
        Check.owners(x, -1, -1, -1, -1, -1, 3, 2);
        Check.land(x, "like 1 p=3&t=6;like 1 p=2&t=5");
        swap(c, "the last two", x, 1, 56);
    }

    static void asManySwapsAsThereCanBe(Check c) {
        Lift x = Check.holders(Check.of(99, 99), 1, 1, 1, 1, 1, 1, 1);
        Check.owners(x, 0, 0, 0, 1, 1, 1, 1);
        Check.land(x, "like 1 p=0&t>2;like 1 p=1&t<3");
        swap(c, "3 by 4", x, 12, 3);
    }

    static void swapOfAnotherWhatIsNone(Check c) {
        Lift x = two(9, 9);
        for (int what : Check.of(-1, 2, LEAST, MOST)) {
            c.refuses(x, "swap(" + what + ")", o -> o.swap(what), OwnsLift.NONE);
        }
    }

    // ---- promise 22: REST

    static void restIsNoneWithoutASwap(Check c) {
        c.asks(new Lift(), "nobody and nothing", o -> o.rest(), 0);
        c.asks(Check.holders(Check.of(9, 9)), "nothing", o -> o.rest(), 0);
        Lift x = two(7, 5);
        c.asks(x, "OVER behind it", o -> o.rest(), 0);
        x.strength(0, 8);
        c.asks(x, "one", o -> o.rest(), 1);
        c.due("all stays", x.at(0, 1), 0);
    }

    static void restTakesTheFirstEachTime(Check c) {
        // 0 with 1 first: then 0 has what it likes most, and 2 gets nothing.
        Lift x = Check.holders(Check.of(9, 9, 9), 1, 1, 1);
        Check.owners(x, 0, 1, 2);
        Check.land(x, "like 2 p=0&t=1;like 1 p=0&t=2;like 1 p>0&t=0");
        c.asks(x, "one", o -> o.rest(), 1);
        // The other way round 0 gets 1 first, and then 2 of what it likes more.
        Check.land(x, "like 1 p=0&t=1;like 2 p=0&t=2;like 1 p=1&t=0;like 1 p=2&t=1");
        c.asks(x, "two", o -> o.rest(), 2);
    }

    static void restGoesOnTillThereIsNone(Check c) {
        Lift x = Check.holders(Check.of(99, 99), 1, 1, 1, 1, 1, 1);
        Check.owners(x, 0, 0, 0, 1, 1, 1);
        Check.land(x, "like 1 p=0&t>2;like 1 p=1&t<3");
        c.asks(x, "three, one for each", o -> o.rest(), 3);
        x.give(0, -1);
        c.asks(x, "two", o -> o.rest(), 2);
    }

    /** The SWAPS are made by hand, the first each time: as many as REST tells, which changes nothing. */
    private static void restByHand(Check c, String what, Lift x, int number) {
        c.asks(x, what, o -> o.rest(), number);
        int made = 0;
        for (int first = x.swap(1); first != -5 && made < 30; first = x.swap(1)) {
            int one = x.at(first / 10, 1);
            int other = x.at(first % 10, 1);
            x.give(first / 10, other);
            x.give(first % 10, one);
            made++;
            c.due(what + ", behind " + made, x.rest(), number - made);
        }
        c.due(what + ", by hand", made, number);
    }

    /**
     * The most SWAPS that a search found. That there are more than 20 can't be: each SWAP lets two THINGS climb in what
     * their OWNERS like, and there is room for 18.
     */
    static void restOfManySwapsOneBehindTheOther(Check c) {
        Lift x = Check.holders(Check.of(99, 99, 99, 99), 1, 1, 1, 1, 1, 1, 1);
        Check.owners(x, 1, 1, 2, 3, 3, 0, 0);
        Check.land(x, "like 4 p<3&t>3&p>0;like 8 p>0&t>4;like 2 p<2&t>1;like 7 t=1&p>1;like 1 t<1;like 4 p<1|t=6;like 3 t<4");
        restByHand(c, "nine", x, 9);
        Lift y = Check.holders(Check.of(99, 99, 99, 99), 1, 1, 1, 1, 1, 1, 1);
        Check.owners(y, 2, 3, 3, 1, 1, 0, 0);
        Check.land(y, "like 6 t<4&t<3&p<2;like 5 t=1|p>0;like 4 t>1;like 3 t>4&p>0;like 7 p<3|t=0|t>2;like 8 p>2|p=1|t=3");
        restByHand(c, "eight", y, 8);
    }

    static void restIsNeverMinusFive(Check c) {
        Random random = new Random(7);
        for (int n = 0; n < 400; n++) {
            Lift x = Check.holders(Check.of(99, 99, 99, 99), 1, 1, 1, 1, 1, 1, 1);
            for (int t = 0; t < 7; t++) {
                x.give(t, random.nextInt(4));
            }
            StringBuilder land = new StringBuilder();
            for (int k = 0; k < 6; k++) {
                land.append(k == 0 ? "" : ";").append("like ").append(1 + random.nextInt(9)).append(" p")
                    .append("<=>".charAt(random.nextInt(3))).append(random.nextInt(4)).append("&t")
                    .append("<=>".charAt(random.nextInt(3))).append(random.nextInt(7));
            }
            Check.land(x, land.toString());
            int rest = x.rest();
            c.due("REST is between 0 and 18", rest >= 0 && rest <= 18 ? 1 : 0, 1);
            c.due("none if there is no SWAP", rest == 0 ? 1 : 0, x.swap(0) == 0 ? 1 : 0);
        }
    }

    // ---- promise 23: FAIR


    private static void fair(Check c, String what, Lift x, int one, int other, int number, int least) {
        c.asks(x, what + ", how many", o -> o.fair(one, other, 0), number);
        c.asks(x, what + ", the least", o -> o.fair(one, other, 1), least);
    }

    static void fairOfNothingIsOneWay(Check c) {
        Lift x = Check.holders(Check.of(0, 0, 0), 5);
        fair(c, "no THINGS of both", x, 0, 1, 1, 0);
        x.give(0, 2);
        fair(c, "all are the third's", x, 0, 1, 1, 0);
        fair(c, "without THINGS", Check.holders(Check.of(0, 0)), 1, 0, 1, 0);
    }

    static void fairCanBeNone(Check c) {
        Lift x = Check.holders(Check.of(9, 9), 5);
        x.give(0, 0);
        fair(c, "one THING that both like", x, 0, 1, 0, -5);
        fair(c, "the other way round", x, 1, 0, 0, -5);
    }

    static void asMuchLikeIsFair(Check c) {
        Lift x = Check.holders(Check.of(9, 9), 1, 1);
        Check.owners(x, 0, 0);
        fair(c, "one each", x, 0, 1, 2, 1);
        Check.land(x, "like 1 t=0");
        fair(c, "2 and 1", x, 0, 1, 0, -5);
        Check.land(x, "like 1 t=0&p=0");
        fair(c, "0 has 2 of 3, 1 has 1 of 2", x, 0, 1, 1, 1);
        fair(c, "the other one first", x, 1, 0, 1, 2);
    }

    static void fairWhenNoneOfTheTwoIsOver(Check c) {
        Lift x = Check.holders(Check.of(5, 7), 5, 7);
        Check.owners(x, 1, 0);
        fair(c, "5 of 5 and 7 of 7", x, 0, 1, 1, 1);
        x.strength(0, 4);
        fair(c, "5 of 4", x, 0, 1, 0, -5);
        x.strength(0, 7);
        fair(c, "both ways", x, 0, 1, 2, 1);
        x.strength(1, 6);
        fair(c, "7 of 6", x, 0, 1, 1, 2);
        x.strength(1, 4);
        fair(c, "5 of 4", x, 0, 1, 0, -5);
    }

    static void fairPartsAllThingsOfBoth(Check c) {
        Lift x = Check.holders(Check.of(0, 0, 9), 0, 0, 0, 5);
        Check.owners(x, 0, 1, 2, 2);
        fair(c, "what weighs nothing", x, 0, 1, 2, 1);
        Check.owners(x, 0, 0, 0, 0);
        x.strength(0, 4);
        fair(c, "one more than both can lift", x, 0, 1, 0, -5);
        Check.owners(x, 0, 2, 2, 1);
        x.strength(1, 5);
        fair(c, "not the third's", x, 0, 1, 1, 1);
    }

    static void fairOfTheFirstAndTheLast(Check c) {
        Lift x = Check.holders(Check.of(99, 9, 9, 99), 1, 1, 1, 1, 1, 1, 1);
        Check.owners(x, 0, 0, 0, 0, 3, 3, 3);
        Check.land(x, "like 1 p=3&t>3");
        // 0 gets four at least, of which 3 likes one at most by 2: {0, 1, 2, 3}, or three of these and one of 4, 5, 6.
        fair(c, "of all seven", x, 0, 3, 13, 15);
        fair(c, "the other one first", x, 3, 0, 13, 127 - 78);
    }

    static void fairTellsHowManyAndTheLeast(Check c) {
        Lift x = Check.holders(Check.of(0, 0), 0, 0, 0, 0, 0, 0, 0);
        fair(c, "all are nobody's", x, 0, 1, 1, 0);
        Check.owners(x, 0, 0, 0, 0, 0, 0, -1);
        fair(c, "three each of six", x, 0, 1, 20, 7);
        x.give(6, 1);
        fair(c, "seven, all liked as much", x, 0, 1, 0, -5);
    }


    static void fairOfNoSuchPersonOrWhatIsNone(Check c) {
        Lift x = two(9, 9);
        for (int n : Check.of(-1, 2, 4, LEAST, MOST)) {
            c.refuses(x, "fair(" + n + ", 0, 0)", o -> o.fair(n, 0, 0), OwnsLift.NONE);
            c.refuses(x, "fair(0, " + n + ", 0)", o -> o.fair(0, n, 0), OwnsLift.NONE);
            c.refuses(x, "fair(0, 1, " + n + ")", o -> o.fair(0, 1, n), OwnsLift.NONE);
        }
        c.due("nobody yet", new Lift().fair(0, 1, 0), OwnsLift.NONE);
        c.due("one alone", Check.holders(Check.of(1)).fair(0, 1, 0), OwnsLift.NONE);
    }

    static void fairOfOneAloneIsBad(Check c) {
        Lift x = two(9, 9);
        for (int p = 0; p < 2; p++) {
            int one = p;
            c.refuses(x, "fair(" + p + ", " + p + ", 0)", o -> o.fair(one, one, 0), OwnsLift.BAD);
            c.refuses(x, "fair(" + p + ", " + p + ", 1)", o -> o.fair(one, one, 1), OwnsLift.BAD);
        }
    }

    static void fairNamesNoneAheadOfBad(Check c) {
        Lift x = two(9, 9);
        c.refuses(x, "no such two", o -> o.fair(2, 2, 0), OwnsLift.NONE);
        c.refuses(x, "no such two", o -> o.fair(-1, -1, 0), OwnsLift.NONE);
        c.refuses(x, "no such what", o -> o.fair(0, 0, 2), OwnsLift.NONE);
        c.refuses(x, "no such what", o -> o.fair(1, 1, -1), OwnsLift.NONE);
    }

    // ---- promise 24: HAD

    private static void had(Check c, Lift x, int weight, int number, int least) {
        c.asks(x, "had(" + weight + ", 0)", o -> o.had(weight, 0), number);
        c.asks(x, "had(" + weight + ", 1)", o -> o.had(weight, 1), least);
    }

    static void hadOfNoughtIsTheEmptySetAtLeast(Check c) {
        had(c, new Lift(), 0, 1, 0);
        had(c, Check.holders(Check.of(), 1, 2), 0, 1, 0);
        had(c, Check.holders(Check.of(), 0, 2), 0, 2, 0);
        had(c, Check.holders(Check.of(), 0, 0, 0, 0, 0, 0, 0), 0, 128, 0);
    }

    static void hadOfAllAndOfMoreThanAll(Check c) {
        Lift x = Check.holders(Check.of(), 50, 50, 50, 50, 50, 50, 50);
        had(c, x, 350, 1, 127);
        had(c, x, 349, 0, -5);
        had(c, x, 351, 0, -5);
        had(c, x, 300, 7, 63);
        had(c, x, 50, 7, 1);
        had(c, x, 400, 0, -5);
    }

    static void hadCanBeNone(Check c) {
        had(c, new Lift(), 1, 0, -5);
        had(c, new Lift(), 400, 0, -5);
        Lift x = Check.holders(Check.of(), 3, 5);
        had(c, x, 1, 0, -5);
        had(c, x, 4, 0, -5);
        had(c, x, 9, 0, -5);
    }

    static void hadOfTheLeastAndTheMostNumber(Check c) {
        Lift x = Check.holders(Check.of(), 50, 50, 50, 50, 50, 50, 50);
        c.asks(x, "had(0, 0)", o -> o.had(0, 0), 1);
        c.asks(x, "had(0, 1)", o -> o.had(0, 1), 0);
        c.asks(x, "had(1, 0)", o -> o.had(1, 0), 0);
        c.asks(x, "had(399, 0)", o -> o.had(399, 0), 0);
        c.asks(x, "had(400, 0)", o -> o.had(400, 0), 0);
        c.asks(x, "had(400, 1)", o -> o.had(400, 1), -5);
    }

    static void hadTellsNoneAsNoughtAndMinusFive(Check c) {
        Lift x = Check.holders(Check.of(), 2, 2);
        had(c, x, 1, 0, -5);
        had(c, x, 2, 2, 1);
        had(c, x, 3, 0, -5);
        had(c, x, 4, 1, 3);
        had(c, x, 5, 0, -5);
    }


    static void hadOfSeveralIsTheLeastAsBits(Check c) {
        Lift x = Check.holders(Check.of(9), 5, 4, 1, 5, 0);
        x.give(0, 0);
        had(c, x, 5, 6, 1);
        had(c, x, 10, 6, 7);
        had(c, x, 4, 2, 2);
        had(c, x, 15, 2, 15);
    }

    static void hadIsOfAllThingsWhoseverTheyAre(Check c) {
        Lift x = Check.holders(Check.of(0, 0), 5, 6, 7);
        Check.owners(x, 0, 1, -1);
        had(c, x, 18, 1, 7);
    }

    static void hadOfANumberBeyondIsBad(Check c) {
        Lift x = two(9, 9);
        for (int weight : Check.of(-1, 401, LEAST, MOST)) {
            c.refuses(x, "had(" + weight + ", 0)", o -> o.had(weight, 0), OwnsLift.BAD);
            c.refuses(x, "had(" + weight + ", 1)", o -> o.had(weight, 1), OwnsLift.BAD);
        }
    }

    static void hadOfAnotherWhatIsNoneAheadOfBad(Check c) {
        Lift x = two(9, 9);
        for (int what : Check.of(-1, 2, LEAST, MOST)) {
            c.refuses(x, "had(0, " + what + ")", o -> o.had(0, what), OwnsLift.NONE);
            c.refuses(x, "had(-1, " + what + ")", o -> o.had(-1, what), OwnsLift.NONE);
            c.refuses(x, "had(401, " + what + ")", o -> o.had(401, what), OwnsLift.NONE);
        }
    }

    // ---- promise 25: ODDS

    private static void odds(Check c, String what, Lift x, long above, long below) {
        c.asks(x, what + ", above", o -> o.odds(0), above);
        c.asks(x, what + ", below", o -> o.odds(1), below);
    }

    /** One who lifts so much and owns so much, with so much ILL. */
    private static Lift ill(int lifts, int weight, int ill) {
        Lift x = Check.holders(Check.of(lifts), weight);
        x.give(0, 0);
        Check.land(x, "ill " + ill + " p=0");
        return x;
    }

    static void oddsOfNobodyAndNothingAreSure(Check c) {
        odds(c, "nobody", new Lift(), 1, 1);
        odds(c, "nothing", Check.holders(Check.of(0, 0, 0, 0)), 1, 1);
        odds(c, "surely ill, of nothing", ill(0, 0, 99), 1, 1);
    }

    static void oddsOfNoIllAndOfTenAndBetween(Check c) {
        odds(c, "ILL 0, 10 of 10", ill(10, 10, 0), 1, 1);
        odds(c, "ILL 0, 11 of 10", ill(10, 11, 0), 0, 1);
        odds(c, "ILL 10, 10 of 10", ill(10, 10, 10), 0, 1);
        odds(c, "ILL 10, 5 of 10", ill(10, 5, 10), 1, 1);
        odds(c, "ILL 11 is 10", ill(10, 10, 11), 0, 1);
        odds(c, "ILL 1", ill(10, 10, 1), 9, 10);
        odds(c, "ILL 9", ill(10, 10, 9), 1, 10);
        odds(c, "ILL 5", ill(10, 10, 5), 1, 2);
    }

    static void theHalfIsCut(Check c) {
        odds(c, "5 of the half of 10", ill(10, 5, 4), 1, 1);
        odds(c, "6 of the half of 10", ill(10, 6, 4), 3, 5);
        odds(c, "5 of the half of 11", ill(11, 5, 4), 1, 1);
        odds(c, "6 of the half of 11", ill(11, 6, 4), 3, 5);
        odds(c, "1 of the half of 1", ill(1, 1, 4), 3, 5);
        odds(c, "0 of the half of 1", ill(1, 0, 4), 1, 1);
        odds(c, "0 of the half of 0", ill(0, 0, 4), 1, 1);
    }

    static void oddsAreInLowestTerms(Check c) {
        Lift x = Check.holders(Check.of(10, 10, 10, 10), 10, 10, 10, 10);
        Check.owners(x, 0, 1, 2, 3);
        Check.land(x, "ill 1 p<9");
        odds(c, "9/10 four times", x, 6561, 10000);
        Check.land(x, "ill 5 p<9");
        odds(c, "the half four times", x, 1, 16);
        Check.land(x, "ill 2 p<9");
        odds(c, "4/5 four times", x, 256, 625);
        Check.land(x, "ill 9 p<9");
        odds(c, "1/10 four times", x, 1, 10000);
        Check.land(x, "ill 9 p<3;ill 10 p=3");
        odds(c, "one surely", x, 0, 1);
    }

    static void oneWhoIsOverMakesItImpossible(Check c) {
        Lift x = Check.holders(Check.of(10, 9), 10, 10);
        Check.owners(x, 0, 1);
        odds(c, "0 by 1", x, 0, 1);
        x.strength(1, 10);
        odds(c, "1 by 1", x, 1, 1);
    }

    static void oddsTellAboveAndBelowTheLine(Check c) {
        Lift x = ill(10, 10, 3);
        c.asks(x, "odds(0)", o -> o.odds(0), 7);
        c.asks(x, "odds(1)", o -> o.odds(1), 10);
        c.asks(ill(10, 11, 3), "0 above", o -> o.odds(0), 0);
        c.asks(ill(10, 11, 3), "and 1 below", o -> o.odds(1), 1);
        c.asks(ill(10, 5, 3), "1 above", o -> o.odds(0), 1);
        c.asks(ill(10, 5, 3), "and 1 below", o -> o.odds(1), 1);
    }


    static void oddsOfAnotherPartIsNo(Check c) {
        Lift x = two(9, 9);
        for (int part : Check.of(-1, 2, LEAST, MOST)) {
            c.refuses(x, "odds(" + part + ")", o -> o.odds(part), OwnsLift.NO);
        }
    }
}
