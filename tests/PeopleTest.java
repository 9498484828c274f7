/** Promises 1 and 4 to 12: a new object, PEOPLE, THINGS. */
public final class PeopleTest {
    private static final Check c = new Check();

    public static void main(String[] args) {
        newObject();
        person();
        of();
        liftsAndIll();
        strength();
        row();
        thing();
        at();
        give();
        like();
        when();
        c.end("PeopleTest");
    }

    private static void newObject() {
        Lift x = new Lift();
        for (int what = 0; what <= 5; what++) {
            c.due("1: count(" + what + ")", x.count(what), 0);
        }
        c.due("1: when()", x.when(), 0);
        c.due("1: best(-1)", x.best(-1), 0);
        c.due("1: most()", x.most(), 0);
        c.due("1: moved()", x.moved(), 0);
        c.due("1: swap(1)", x.swap(1), -5);
        c.due("1: had(0, 0)", x.had(0, 0), 1);
        c.due("1: had(0, 1)", x.had(0, 1), 0);
        c.due("1: had(1, 1)", x.had(1, 1), -5);
        c.due("1: odds(0)", x.odds(0), 1);
        c.due("1: odds(1)", x.odds(1), 1);
        c.due("1: looked()", x.looked(), -5);
        c.refuses(x, "1: of(0, 0)", o -> o.of(0, 0), OwnsLift.NONE);
        c.refuses(x, "1: like(0, 0)", o -> o.like(0, 0), OwnsLift.NONE);
        c.refuses(x, "1: trace(0)", o -> o.trace(0), OwnsLift.NONE);
        c.refuses(x, "1: undo()", o -> o.undo(), OwnsLift.STATE);
        c.due("1: no LAND's like", likeOfNoLand(), 1);
        c.due("constants", OwnsLift.NONE * 1000 + OwnsLift.BAD * 100 + OwnsLift.STATE * 10 + OwnsLift.FULL, -1234);
        c.due("NO", OwnsLift.NO, Long.MIN_VALUE);
    }

    private static int likeOfNoLand() {
        Lift x = new Lift();
        x.person(0, 0, 7, 0);
        x.thing(1);
        return x.like(0, 0);
    }

    private static void person() {
        Lift x = new Lift();
        c.refuses(x, "4: person(-1, ..)", o -> o.person(-1, 0, 0, 0), OwnsLift.NONE);
        c.refuses(x, "4: person(7, ..)", o -> o.person(7, 0, 0, 0), OwnsLift.NONE);
        c.refuses(x, "4: NONE ahead of BAD", o -> o.person(7, 10, 100, 100), OwnsLift.NONE);
        c.refuses(x, "4: v -1", o -> o.person(0, -1, 0, 0), OwnsLift.BAD);
        c.refuses(x, "4: v 10", o -> o.person(0, 10, 0, 0), OwnsLift.BAD);
        c.refuses(x, "4: strength -1", o -> o.person(0, 0, -1, 0), OwnsLift.BAD);
        c.refuses(x, "4: strength 100", o -> o.person(0, 0, 100, 0), OwnsLift.BAD);
        c.refuses(x, "4: age -1", o -> o.person(0, 0, 0, -1), OwnsLift.BAD);
        c.refuses(x, "4: age 100", o -> o.person(0, 0, 0, 100), OwnsLift.BAD);
        c.due("4: the first", x.person(0, 0, 0, 0), 0);
        c.due("4: the second", x.person(6, 9, 99, 99), 1);
        c.due("4: the third", x.person(3, 1, 2, 3), 2);
        c.due("4: the fourth", x.person(1, 1, 2, 3), 3);
        c.refuses(x, "4: a fifth", o -> o.person(0, 0, 0, 0), OwnsLift.FULL);
        c.refuses(x, "4: BAD ahead of FULL", o -> o.person(0, 10, 0, 0), OwnsLift.BAD);
        c.refuses(x, "4: NONE ahead of FULL", o -> o.person(7, 0, 0, 0), OwnsLift.NONE);
        c.due("4: count(0)", x.count(0), 4);
    }

    private static void of() {
        Lift x = new Lift();
        x.person(6, 4, 30, 55);
        x.person(1, 2, 5, 6);
        x.thing(20);
        x.thing(14);
        x.thing(1);
        x.give(0, 0);
        x.give(1, 0);
        x.row(0, 1);
        x.row(0, 1);
        int[] told = {6, 4, 30, 55, 34, 34, 0, 0, 3, 2};
        for (int what = 0; what < told.length; what++) {
            int w = what;
            c.asks(x, "5: of(0, " + w + ")", o -> o.of(0, w), told[w]);
        }
        int[] full = {1, 2, 5, 6, 5, 0, 0, 0, 0, 0};
        for (int what = 0; what < full.length; what++) {
            c.due("5: of(1, " + what + ")", x.of(1, what), full[what]);
        }
        x.give(2, 0);
        c.due("5: OVER by one", x.of(0, 6), 1);
        c.due("5: LOAD", x.of(0, 5), 35);
        c.due("5: bits", x.of(0, 8), 7);
        c.refuses(x, "5: of(2, 0)", o -> o.of(2, 0), OwnsLift.NONE);
        c.refuses(x, "5: of(-1, 0)", o -> o.of(-1, 0), OwnsLift.NONE);
        c.refuses(x, "5: of(0, 10)", o -> o.of(0, 10), OwnsLift.NONE);
        c.refuses(x, "5: of(0, -1)", o -> o.of(0, -1), OwnsLift.NONE);
    }

    private static void liftsAndIll() {
        Lift x = new Lift();
        for (int kind = 0; kind < 4; kind++) {
            x.person(kind, 9, 10, 0);
        }
        c.due("5: LIFTS of HOLDER", x.of(0, 4), 10);
        c.due("5: LIFTS of FULL", x.of(1, 4), 10);
        c.due("5: LIFTS of HANDING", x.of(2, 4), 10);
        c.due("5: LIFTS of LENDING", x.of(3, 4), 19);
        Lift z = new Lift();
        for (int kind = 4; kind < 7; kind++) {
            z.person(kind, 9, 10, 39);
        }
        c.due("5: LIFTS of DEAREST", z.of(0, 4), 10);
        c.due("5: LIFTS of GIVING", z.of(1, 4), 10);
        c.due("5: LIFTS of TOLD", z.of(2, 4), 19);
        Check.land(z, "lift 5 a=3;lift 7 k>4;lift 1 t=99&w=99;ill 6 p=1;ill 5 t>98&w>98&k=5;ill 9 p=0;like 40 p<9");
        c.due("5: LIFTS with LAND", z.of(0, 4), 16);
        c.due("5: LIFTS with LAND", z.of(1, 4), 23);
        c.due("5: LIFTS with LAND", z.of(2, 4), 32);
        c.due("5: ILL 9", z.of(0, 7), 9);
        c.due("5: ILL 10 at most", z.of(1, 7), 10);
        c.due("5: ILL 0", z.of(2, 7), 0);
    }

    private static void strength() {
        Lift x = new Lift();
        x.person(0, 0, 12, 0);
        c.refuses(x, "6: strength(1, 5)", o -> o.strength(1, 5), OwnsLift.NONE);
        c.refuses(x, "6: strength(-1, 100)", o -> o.strength(-1, 100), OwnsLift.NONE);
        c.refuses(x, "6: strength(0, 100)", o -> o.strength(0, 100), OwnsLift.BAD);
        c.refuses(x, "6: strength(0, -1)", o -> o.strength(0, -1), OwnsLift.BAD);
        c.due("6: strength(0, 99)", x.strength(0, 99), 12);
        c.due("6: of(0, 2)", x.of(0, 2), 99);
        c.due("6: strength(0, 0)", x.strength(0, 0), 99);
        c.due("6: of(0, 4)", x.of(0, 4), 0);
    }

    private static void row() {
        Lift x = new Lift();
        x.person(6, 0, 0, 0);
        x.person(3, 0, 0, 0);
        x.person(6, 0, 0, 0);
        x.thing(1);
        x.thing(1);
        c.refuses(x, "7: row(3, 0)", o -> o.row(3, 0), OwnsLift.NONE);
        c.refuses(x, "7: row(0, 2)", o -> o.row(0, 2), OwnsLift.NONE);
        c.refuses(x, "7: row(0, -2)", o -> o.row(0, -2), OwnsLift.NONE);
        c.refuses(x, "7: NONE ahead of STATE", o -> o.row(1, 2), OwnsLift.NONE);
        c.refuses(x, "7: row(1, 0)", o -> o.row(1, 0), OwnsLift.STATE);
        c.refuses(x, "7: row(1, -1)", o -> o.row(1, -1), OwnsLift.STATE);
        for (int n = 1; n <= 7; n++) {
            c.due("7: row(0, ..)", x.row(0, n % 2), n);
        }
        c.refuses(x, "7: an eighth", o -> o.row(0, 0), OwnsLift.FULL);
        c.refuses(x, "7: NONE ahead of FULL", o -> o.row(0, 2), OwnsLift.NONE);
        c.due("7: another's ROW", x.of(2, 9), 0);
        c.due("7: row(0, -1)", x.row(0, -1), 0);
        c.due("7: none then", x.of(0, 9), 0);
        c.due("7: anew", x.row(0, 1), 1);
    }

    private static void thing() {
        Lift x = new Lift();
        c.refuses(x, "8: thing(-1)", o -> o.thing(-1), OwnsLift.BAD);
        c.refuses(x, "8: thing(51)", o -> o.thing(51), OwnsLift.BAD);
        for (int t = 0; t < 7; t++) {
            c.due("8: thing", x.thing(t == 0 ? 50 : t - 1), t);
            c.due("8: nobody's", x.at(t, 1), -5);
        }
        c.refuses(x, "8: an eighth", o -> o.thing(0), OwnsLift.FULL);
        c.refuses(x, "8: BAD ahead of FULL", o -> o.thing(51), OwnsLift.BAD);
        c.due("8: count(1)", x.count(1), 7);
    }

    private static void at() {
        Lift x = new Lift();
        x.person(0, 0, 0, 0);
        x.thing(33);
        c.due("9: WEIGHT", x.at(0, 0), 33);
        c.due("9: nobody's", x.at(0, 1), -5);
        x.give(0, 0);
        c.due("9: OWNER", x.at(0, 1), 0);
        c.refuses(x, "9: at(1, 0)", o -> o.at(1, 0), -1001);
        c.refuses(x, "9: at(-1, 0)", o -> o.at(-1, 0), -1001);
        c.refuses(x, "9: at(0, 2)", o -> o.at(0, 2), -1001);
        c.refuses(x, "9: at(0, -1)", o -> o.at(0, -1), -1001);
    }

    private static void give() {
        Lift x = new Lift();
        x.person(0, 0, 0, 0);
        x.person(0, 0, 0, 0);
        x.thing(50);
        c.due("10: was nobody's", x.give(0, 1), -5);
        c.due("10: is OVER", x.of(1, 6), 1);
        c.due("10: was 1's", x.give(0, 0), 1);
        c.refuses(x, "10: give(1, 0)", o -> o.give(1, 0), -1001);
        c.refuses(x, "10: give(-1, 0)", o -> o.give(-1, 0), -1001);
        c.refuses(x, "10: give(0, 2)", o -> o.give(0, 2), -1001);
        c.refuses(x, "10: give(0, -2)", o -> o.give(0, -2), -1001);
        c.due("10: was 0's", x.give(0, -1), 0);
        c.due("10: nobody's", x.at(0, 1), -5);
        c.due("10: was nobody's", x.give(0, -1), -5);
    }

    private static void like() {
        Lift x = new Lift();
        x.person(0, 0, 0, 19);
        x.person(5, 0, 0, 20);
        x.thing(9);
        x.thing(50);
        Check.land(x, "like 3 a=1;like 20 t=1&p=1;like 4 w=5;like 50 k=5&w<1;lift 9 p<9");
        c.due("11: like(0, 0)", x.like(0, 0), 4);
        c.due("11: like(0, 1)", x.like(0, 1), 8);
        c.due("11: like(1, 0)", x.like(1, 0), 51);
        c.due("11: like(1, 1)", x.like(1, 1), 25);
        c.refuses(x, "11: like(2, 0)", o -> o.like(2, 0), OwnsLift.NONE);
        c.refuses(x, "11: like(-1, 0)", o -> o.like(-1, 0), OwnsLift.NONE);
        c.refuses(x, "11: like(0, 2)", o -> o.like(0, 2), OwnsLift.NONE);
        c.refuses(x, "11: like(0, -1)", o -> o.like(0, -1), OwnsLift.NONE);
    }

    private static void when() {
        Lift x = new Lift();
        x.year();
        x.year();
        c.asks(x, "12: when()", o -> o.when(), 2);
    }
}
