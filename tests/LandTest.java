/** Promises 2 and 3: THE TAPE, LANDS, their CLAUSES and FAULTS. */
public final class LandTest {
    private static final Check c = new Check();

    public static void main(String[] args) {
        feed();
        faultsOfWords();
        faultsOfNumbers();
        faultsOfE();
        faultsOfOpen();
        manyClauses();
        holding();
        full();
        meanings();
        years();
        shorter();
        c.end("LandTest");
    }

    private static void feed() {
        Lift x = new Lift();
        c.refuses(x, "2: feed(-1)", o -> o.feed(-1), OwnsLift.BAD);
        c.refuses(x, "2: feed(128)", o -> o.feed(128), OwnsLift.BAD);
        c.due("2: feed(0)", x.feed(0), 1);
        c.due("2: feed(127)", x.feed(127), 2);
        c.due("2: land() of these", x.land(), -10);
        String land = "like 15 p=0|" + "p=1|".repeat(21) + "p=2";
        for (int i = 0; i < 99; i++) {
            c.due("2: feed", x.feed(land.charAt(i)), i + 1);
        }
        c.due("2: the hundredth", x.feed('2'), 100);
        c.refuses(x, "2: one more", o -> o.feed(';'), OwnsLift.FULL);
        c.refuses(x, "2: BAD ahead of FULL", o -> o.feed(128), OwnsLift.BAD);
        c.due("2: count(4)", x.count(4), 100);
        c.due("3: a LAND of 100", x.land(), 0);
        c.due("3: THE TAPE is empty", x.count(4), 0);
    }

    private static void fault(String text, int place) {
        Lift x = new Lift();
        c.due("3: land() of '" + text + "'", Check.land(x, text), -10 - place);
        c.due("3: THE TAPE behind '" + text + "'", x.count(4), 0);
        c.due("3: LANDS behind '" + text + "'", x.count(2), 0);
    }

    private static void good(String text) {
        Lift x = new Lift();
        c.due("3: land() of '" + text + "'", Check.land(x, text), 0);
        c.due("3: LANDS behind '" + text + "'", x.count(2), 1);
    }

    private static void faultsOfWords() {
        fault("", 0);
        fault("x", 0);
        fault(" like 1 p=1", 0);
        fault("Like 1 p=1", 0);
        fault(";", 0);
        fault("l", 1);
        fault("lx", 1);
        fault("ll", 1);
        fault("li", 2);
        fault("lik 1", 3);
        fault("lifk", 3);
        fault("lift", 4);
        fault("like", 4);
        fault("likes", 4);
        fault("liken", 4);
        fault("weak", 3);
        fault("wer", 2);
        fault("il 1", 2);
        fault("i", 1);
        fault("illl", 3);
        good("like 1 p=1");
        good("lift 1 p=1");
        good("wear 1 p=1");
        good("ill 1 p=1");
        good("ill 1 p=1;wear 1 p=1;lift 1 p=1;like 1 p=1");
    }

    private static void faultsOfNumbers() {
        fault("like  1 p=1", 5);
        fault("like -1 p=1", 5);
        fault("like ", 5);
        fault("like 1", 6);
        fault("like 12", 7);
        fault("like 123", 7);
        fault("like 00 p=1", 6);
        fault("like 01 p=1", 6);
        fault("like 1p=1", 6);
        fault("like 1  p=1", 7);
        fault("like 1 ", 7);
        fault("like 1 p=", 9);
        fault("like 1 p=a", 9);
        fault("like 1 p=01", 10);
        fault("like 1 p=123", 11);
        fault("like 1 p=1 ", 10);
        good("like 0 p=0");
        good("like 10 p=10");
        good("like 99 p=99");
    }

    private static void faultsOfE() {
        fault("like 1 q=1", 7);
        fault("like 1 P=1", 7);
        fault("like 1 1=p", 7);
        fault("like 1 p", 8);
        fault("like 1 p!1", 8);
        fault("like 1 p==1", 9);
        fault("like 1 p =1", 8);
        fault("like 1 p= 1", 9);
        fault("like 1 p=1&", 11);
        fault("like 1 p=1&&", 11);
        fault("like 1 p=1|", 11);
        fault("like 1 p=1||", 11);
        fault("like 1 p=1&|", 11);
        fault("like 1 p=1)", 10);
        fault("like 1 p=1;", 11);
        fault("like 1 p=1;;", 11);
        fault("like 1 p=1; like", 11);
        fault("like 1 p=1p=1", 10);
        fault("like 1 p=1!p=1", 10);
        fault("like 1 p=1(p=1)", 10);
        fault("like 1 &p=1", 7);
        for (char letter : "pkatwy".toCharArray()) {
            for (char sign : "<=>".toCharArray()) {
                good("like 1 " + letter + sign + "7");
            }
        }
        good("like 1 p=1&k=1|a=1&t=1|w=1|y=1");
    }

    private static void faultsOfOpen() {
        fault("like 1 (", 8);
        fault("like 1 ()", 8);
        fault("like 1 (p=1", 11);
        fault("like 1 (p=1;", 11);
        fault("like 1 (p=1))", 12);
        fault("like 1 !", 8);
        fault("like 1 !;", 8);
        fault("like 1 !&", 8);
        good("like 1 !!!!!p=1");
        fault("like 1 !!!!!!p=1", 12);
        fault("like 1 !!!!!(p=1)", 12);
        good("like 1 (((((p=1)))))");
        fault("like 1 ((((((p=1))))))", 12);
        fault("like 1 (((((!p=1)))))", 12);
        good("like 1 ((((!p=1))))");
        good("like 1 !(!(!p=1))");
        fault("like 1 !(!(!(p=1)))x", 12);
        fault("like 1 !(!(!!p=1))", 12);
        good("like 1 !!!!!p=1&!!!!!p=1|(((((p=1)))))");
        good("like 1 ((((!p=1&!p=2|(p=3)|!p=3))))&!!!!!p=1");
        fault("like 1 ((((!p=1&!p=2|(p=3)|!(p=3)))))", 28);
        good("like 1 !(!(p=1)&!(!p=1)|p=2)");
    }

    private static void manyClauses() {
        String ten = "ill 1 p=1;".repeat(9) + "ill 1 p=1";
        good(ten);
        fault(ten + ";", 99);
        String short9 = "ill 1 p=1;".repeat(9);
        fault(short9, 90);
        fault(short9 + "ill 1 p=1x", 99);
        Lift x = new Lift();
        x.person(0, 0, 0, 0);
        Check.land(x, "ill 1 p=1;".repeat(8) + "ill 3 p=0;ill 2 p=0");
        c.due("5: the ninth and the tenth CLAUSE", x.of(0, 7), 5);
        Check.land(x, "ill 4 p=0;" + "ill 1 p=1;".repeat(8) + "ill 2 p=0");
        c.due("5: the first and the tenth CLAUSE", x.of(0, 7), 6);
    }

    /** The LAND that held holds, and THE TAPE is empty, behind a FAULT. */
    private static void holding() {
        Lift x = new Lift();
        x.person(0, 0, 0, 0);
        x.thing(0);
        c.due("3: the first", Check.land(x, "like 5 p=0"), 0);
        c.due("3: holds", x.like(0, 0), 6);
        c.refuses(x, "3: FAULT", o -> Check.land(o, "like 7 p=0;"), -21);
        c.due("3: the one that held holds", x.like(0, 0), 6);
        c.due("3: the second", Check.land(x, "lift 8 p=0"), 1);
        c.due("3: the newest holds alone", x.like(0, 0), 1);
        c.due("3: the newest holds", x.of(0, 4), 8);
    }

    private static void full() {
        Lift x = new Lift();
        x.person(0, 0, 0, 0);
        x.thing(0);
        for (int n = 0; n < 5; n++) {
            c.due("3: LAND", Check.land(x, "like " + n + " p=0"), n);
        }
        Check.feed(x, "bad");
        c.refuses(x, "3: a sixth", o -> o.land(), OwnsLift.FULL);
        c.due("3: THE TAPE stays", x.count(4), 3);
        c.due("3: the fifth holds", x.like(0, 0), 5);
        Lift y = new Lift();
        for (int n = 0; n < 4; n++) {
            Check.land(y, "like 1 p=0");
            Check.land(y, "bad");
        }
        c.due("3: FAULTS are no LANDS", Check.land(y, "ill 1 p=0"), 4);
    }

    /** Whether E holds for person 1 (FULL, age 47) and thing 2 (weight 35) in year 13. */
    private static void holds(String e, boolean want) {
        Lift x = new Lift();
        x.person(0, 0, 0, 0);
        x.person(1, 0, 0, 34);
        x.thing(0);
        x.thing(0);
        x.thing(35);
        for (int n = 0; n < 13; n++) {
            x.year();
        }
        c.due("3: LAND with '" + e + "'", Check.land(x, "like 9 " + e), 0);
        c.due("11: '" + e + "'", x.like(1, 2), want ? 10 : 1);
    }

    private static void meanings() {
        holds("p=1", true);
        holds("k=1", true);
        holds("a=4", true);
        holds("t=2", true);
        holds("w=3", true);
        holds("y=3", true);
        holds("p<1", false);
        holds("p<2", true);
        holds("t>1", true);
        holds("t>2", false);
        holds("a=47", false);
        holds("y=13", false);
        holds("!p=1", false);
        holds("!!p=1", true);
        holds("!p=1&p=0", false);
        holds("!(p=1&p=0)", true);
        holds("p=0&p=1|t=2", true);
        holds("t=2|p=1&p=0", true);
        holds("(t=2|p=1)&p=0", false);
        holds("p=0|p=0|p=1", true);
        holds("p=1&t=2&w=3&y=3", true);
        holds("p=1&t=2&w=3&y=4", false);
        holds("p=0&p=1|p=0&p=1", false);
        holds("p=1&(p=0|t=2&(w=9|y=3&(a=1|k=1)))", true);
        holds("p=1&(p=0|t=2&(w=9|y=3&(a=1|k=2)))", false);
        holds("p=0|p=1&(p=0|p=1&(p=0|p=1&(p=0|p=1&(p=0|p=1&(p=1|p=1&p=0)))))", true);
    }

    private static void years() {
        Lift x = new Lift();
        x.person(0, 0, 0, 9);
        x.thing(50);
        Check.land(x, "wear 4 w=5&t=0;wear 2 w=4;wear 50 p<99|k<99|a<99;wear 3 p=99&k=99&a=99&y=2");
        c.due("14: year", x.year(), 1);
        c.due("14: wear of w 5", x.at(0, 0), 46);
        c.due("14: year", x.year(), 2);
        c.due("14: wear of w 4, y 2", x.at(0, 0), 41);
        Lift z = new Lift();
        z.thing(50);
        Check.land(z, "wear 7 y=0;wear 1 y=1");
        for (int n = 0; n < 11; n++) {
            z.year();
        }
        c.due("14: wear in the years 1, 10, 11", z.at(0, 0), 41);
    }

    /** What stood on THE TAPE before is nothing to the LAND that is read. */
    private static void shorter() {
        Lift x = new Lift();
        c.due("3: land()", Check.land(x, "like 12 p=12&t=1;lift 1 p=1"), 0);
        for (String text : new String[] {"", "l", "lik", "like", "like ", "like 1", "like 12", "like 12 ", "like 12 p",
            "like 12 p=", "like 12 p=12&", "like 12 p=12&t", "like 12 p=12&t=1;li"}) {
            c.due("3: land() of '" + text + "'", Check.land(x, text), -10 - text.length());
        }
        c.due("3: land()", Check.land(x, "like 12 p=0"), 1);
        x.person(0, 0, 0, 0);
        x.thing(0);
        c.due("11: not the 12 of before", x.like(0, 0), 13);
        Check.land(x, "like 12 p=12");
        c.due("3: land()", Check.land(x, "like 1 p<1"), 3);
        c.due("11: not the 12 of before", x.like(0, 0), 2);
    }
}
