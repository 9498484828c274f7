import java.util.function.Consumer;

/** The boundary cases of THE IMAGE: "Terms" 3, promises 31 and 32. See SENTENCES.txt. */
public final class ImageEdgesTest {
    public static void main(String[] args) throws IllegalAccessException {
        Edges.run(ImageEdgesTest.class);
    }

    /** Something of everything. */
    private static Lift world() {
        Lift x = new Lift();
        x.person(6, 5, 40, 33);
        x.person(2, 1, 20, 98);
        Check.things(x, 20, 30, 3);
        Check.owners(x, 0, 1);
        x.row(0, 0);
        x.row(0, 1);
        x.see(0, true);
        x.see(1, false);
        Check.land(x, "like 3 p=0;wear 4 t=1;ill 2 k=2;lift 6 y<9");
        Check.feed(x, "like 7 p=0");
        return x;
    }

    // ---- promise 31: image

    static void imageTellsHowManyPeopleThereAre(Check c) {
        Lift x = new Lift();
        c.due("nobody", x.image(), 0);
        for (int p = 1; p <= 4; p++) {
            x.person(0, 0, 0, 0);
            c.due("PEOPLE", x.image(), p);
        }
        c.due("undo()", x.undo(), 4);
    }

    static void imageChangesNothingElse(Check c) {
        Lift x = world();
        x.act(0, 2, 5);
        Lift before = x.again();
        c.due("image()", x.image(), 2);
        for (Look look : Look.values()) {
            if (look != Look.UNDONE) {
                c.due("behind image()", look.at(x.again()), look.at(before.again()));
            }
        }
    }

    static void takenTwiceTheLaterOneHolds(Check c) {
        Lift x = world();
        x.image();
        x.strength(0, 1);
        x.person(0, 0, 0, 0);
        Lift later = x.again();
        c.due("image()", x.image(), 3);
        later.image();
        x.strength(0, 2);
        x.give(0, 1);
        c.due("undo()", x.undo(), 3);
        c.due("STRENGTH", x.of(0, 2), 1);
        c.same("the later one", x, later);
    }

    static void takenTwiceAtOnceItIsTheSame(Check c) {
        Lift x = world();
        Lift once = x.again();
        once.image();
        x.image();
        x.image();
        c.same("twice", x, once);
    }

    // ---- promise 32: undo

    static void undoWithoutAnImageIsState(Check c) {
        c.refuses(new Lift(), "undo() of a new object", o -> o.undo(), OwnsLift.STATE);
        Lift x = world();
        c.refuses(x, "undo()", o -> o.undo(), OwnsLift.STATE);
        c.refuses(x, "undo() again", o -> o.undo(), OwnsLift.STATE);
        x.image();
        c.due("undo() then", x.undo(), 2);
    }

    static void undoTellsHowManyPeopleThereWere(Check c) {
        for (int people = 0; people <= 4; people++) {
            Lift x = new Lift();
            for (int p = 0; p < people; p++) {
                x.person(p, 0, 0, 0);
            }
            x.image();
            c.due("undo() at once", x.undo(), people);
            x.person(0, 0, 0, 0);
            c.due("undo() of one more", x.undo(), people);
            c.due("PEOPLE", x.count(0), people);
        }
    }


    static void givenBackTwiceItIsTheSame(Check c) {
        Lift x = world();
        x.image();
        Lift once = x.again();
        c.due("undo(), nothing since", x.undo(), 2);
        c.same("once", x, once);
        c.due("undo() again", x.undo(), 2);
        c.same("twice", x, once);
        change(x);
        c.due("undo() of what came since", x.undo(), 2);
        c.same("three times", x, once);
        change(x);
        change(x);
        c.due("undo()", x.undo(), 2);
        c.same("four times", x, once);
    }

    /** Much changes. */
    private static void change(Lift x) {
        x.person(1, 1, 1, 1);
        x.strength(0, 3);
        x.thing(9);
        Check.owners(x, -1, 0, 1);
        x.row(0, -1);
        x.row(0, 1);
        x.see(-1, true);
        x.see(1, true);
        x.year();
        x.land();
        Check.feed(x, "ill 9 p=0");
        x.land();
        Check.feed(x, "w");
    }

    static void anImageOfNothingIsGivenBack(Check c) {
        Lift x = new Lift();
        x.image();
        Lift empty = x.again();
        for (int p = 0; p < 4; p++) {
            x.person(6, 9, 99, 99);
        }
        Check.things(x, 1, 2, 3, 4, 5, 6, 7);
        Check.owners(x, 0, 1, 2, 3);
        x.row(0, 6);
        x.see(3, false);
        Check.land(x, "like 9 p<9;wear 1 t=1");
        Check.feed(x, "abc");
        x.year();
        c.due("undo()", x.undo(), 0);
        c.same("nothing", x, empty);
        c.due("a THING anew", x.thing(5), 0);
        c.due("is nobody's", x.at(0, 1), -5);
        c.due("one anew", x.person(6, 0, 0, 0), 0);
        c.due("has no ROW", x.of(0, 9), 0);
        c.due("has nothing", x.of(0, 8), 0);
    }

    static void anImageOfAllThatIsFullIsGivenBack(Check c) {
        Lift x = new Lift();
        for (int p = 0; p < 4; p++) {
            x.person(6, 9, 99, 99);
        }
        Check.things(x, 1, 2, 3, 4, 5, 6, 7);
        for (int n = 0; n < 7; n++) {
            x.row(3, n);
        }
        for (int n = 0; n < 12; n++) {
            x.see(3, true);
        }
        for (int n = 0; n < 5; n++) {
            Check.land(x, "ill " + n + " p=0");
        }
        c.due("image()", x.image(), 4);
        x.row(3, -1);
        x.see(-1, true);
        x.give(0, 0);
        c.due("undo()", x.undo(), 4);
        c.due("a fifth", x.person(0, 0, 0, 0), OwnsLift.FULL);
        c.due("an eighth", x.thing(0), OwnsLift.FULL);
        c.due("an eighth of the ROW", x.row(3, 0), OwnsLift.FULL);
        c.due("a thirteenth", x.see(0, true), OwnsLift.FULL);
        c.due("a sixth LAND", x.land(), OwnsLift.FULL);
        c.due("the fifth holds", x.of(0, 7), 4);
        c.due("nobody's", x.at(0, 1), -5);
    }

    /** That change shows, and is gone behind undo(). */
    private static void comesBack(Check c, String what, Consumer<Lift> change) {
        Lift x = world();
        x.image();
        Lift before = x.again();
        change.accept(x);
        c.differ(what, x, before);
        c.due("undo() of " + what, x.undo(), 2);
        c.same(what, x, before);
    }

    static void theImageHasThePeople(Check c) {
        comesBack(c, "one more", x -> x.person(0, 0, 0, 0));
        comesBack(c, "two more", x -> {
            x.person(6, 9, 99, 99);
            x.person(6, 9, 99, 99);
        });
        comesBack(c, "STRENGTH", x -> x.strength(1, 21));
        comesBack(c, "STRENGTH 0", x -> x.strength(0, 0));
    }

    static void theImageHasTheThingsAndTheirOwners(Check c) {
        comesBack(c, "one more", x -> x.thing(0));
        comesBack(c, "another OWNER", x -> x.give(0, 1));
        comesBack(c, "nobody's", x -> x.give(0, -1));
        comesBack(c, "no more nobody's", x -> x.give(2, 0));
        comesBack(c, "a BENCH", x -> x.bench(1));
    }

    static void theImageHasTheRows(Check c) {
        comesBack(c, "a ROW that goes on", x -> x.row(0, 2));
        comesBack(c, "no ROW", x -> x.row(0, -1));
        comesBack(c, "another ROW", x -> {
            Check.owners(x, 0, 0, 0);
            x.row(0, -1);
            x.row(0, 2);
            x.row(0, 1);
        });
        Lift x = world();
        Check.owners(x, 0, 0, 0);
        x.image();
        x.row(0, -1);
        x.row(0, 2);
        x.undo();
        x.strength(0, 30);
        c.due("by the ROW of THE IMAGE", x.bench(0), 1);
        c.due("the first of it", x.at(0, 1), -5);
    }

    static void theImageHasTheYearTheAgesAndTheWeights(Check c) {
        comesBack(c, "a YEAR", x -> x.year());
        Lift x = world();
        for (int n = 0; n < 99; n++) {
            x.year();
        }
        x.image();
        c.due("YEAR 99", x.undo(), 2);
        c.due("no more", x.year(), OwnsLift.STATE);
        Lift y = world();
        y.image();
        for (int n = 0; n < 99; n++) {
            y.year();
        }
        y.undo();
        c.due("YEAR 0", y.when(), 0);
        c.due("AGE", y.of(0, 3), 33);
        c.due("AGE", y.of(1, 3), 98);
        c.due("WEIGHT", y.at(1, 0), 30);
        c.due("the first YEAR again", y.year(), 1);
    }

    static void behindUndoAllIsOfTheYearOfTheImage(Check c) {
        Lift x = Check.holders(Check.of(5), 50);
        Check.land(x, "like 3 y=0;like 5 y=1;lift 7 y=0;ill 2 y=0;wear 4 y=1;wear 9 y=2");
        x.image();
        x.year();
        c.due("LIKE in YEAR 1", x.like(0, 0), 6);
        x.undo();
        c.due("LIKE in YEAR 0", x.like(0, 0), 4);
        c.due("LIFTS in YEAR 0", x.of(0, 4), 12);
        c.due("ILL in YEAR 0", x.of(0, 7), 2);
        x.year();
        c.due("WEIGHT in YEAR 1", x.at(0, 0), 46);
        x.undo();
        x.year();
        x.year();
        c.due("WEIGHT in YEAR 2", x.at(0, 0), 37);
    }


    static void theImageHasWhatWasSeen(Check c) {
        comesBack(c, "one more", x -> x.see(0, true));
        comesBack(c, "none", x -> x.see(-1, true));
        comesBack(c, "others", x -> {
            x.see(-1, true);
            x.see(0, false);
            x.see(1, false);
        });
    }

    static void theImageHasTheTape(Check c) {
        comesBack(c, "one more sign", x -> x.feed('1'));
        comesBack(c, "a FAULT", x -> {
            x.feed('x');
            x.land();
        });
        comesBack(c, "another TAPE of as many signs", x -> {
            Check.land(x, "#");
            Check.feed(x, "like 8 p=0");
        });
    }

    static void theImageHasTheLands(Check c) {
        comesBack(c, "the LAND of THE TAPE", x -> x.land());
        Lift x = world();
        x.image();
        for (int n = 1; n < 5; n++) {
            c.due("land()", x.land(), n);
            Check.feed(x, "lift 1 p=1");
        }
        c.due("FULL", x.land(), OwnsLift.FULL);
        x.undo();
        c.due("LANDS", x.count(2), 1);
        c.due("the one that held", x.like(0, 0), 4);
        for (int n = 1; n < 5; n++) {
            c.due("land() anew", x.land(), n);
            Check.feed(x, "lift 1 p=1");
        }
    }

    static void withoutALandThereIsNoneBehindUndo(Check c) {
        Lift x = Check.holders(Check.of(5), 5);
        x.image();
        Check.land(x, "like 9 p=0;lift 9 p=0;ill 9 p=0;wear 1 t=0");
        x.undo();
        c.due("LANDS", x.count(2), 0);
        c.due("LIKE", x.like(0, 0), 1);
        c.due("LIFTS", x.of(0, 4), 5);
        c.due("ILL", x.of(0, 7), 0);
        x.year();
        c.due("WEIGHT", x.at(0, 0), 5);
    }

    static void theImageHasNotTheTrace(Check c) {
        Lift x = world();
        x.act(0, 0, 1);
        x.image();
        x.act(1, 2, 1);
        c.due("bodies", x.count(5), 4);
        x.undo();
        c.due("THE TRACE of the latest act()", x.count(5), 4);
        c.due("THE TRACE of the latest act()", x.trace(0), 3);
        x.act(9, 9, 9);
        x.undo();
        c.due("no TRACE stays none", x.count(5), 0);
        Lift y = new Lift();
        y.image();
        y.person(0, 0, 0, 0);
        y.act(0, 0, 1);
        y.undo();
        c.due("without PEOPLE, too", y.trace(0), 1);
    }

    static void theImageHasNotTheImage(Check c) {
        Lift x = world();
        x.image();
        x.strength(0, 1);
        x.undo();
        x.strength(0, 2);
        c.due("THE IMAGE stays", x.undo(), 2);
        c.due("STRENGTH", x.of(0, 2), 40);
        x.strength(0, 3);
        x.image();
        x.strength(0, 4);
        x.undo();
        c.due("the newer one", x.of(0, 2), 3);
        x.undo();
        c.due("not the older one behind it", x.of(0, 2), 3);
    }

    static void whatComesBehindUndoIsNotOfTheImage(Check c) {
        Lift x = world();
        x.image();
        x.undo();
        x.strength(0, 7);
        x.give(0, 1);
        x.row(0, -1);
        x.see(-1, true);
        x.land();
        x.undo();
        Lift y = world();
        y.image();
        c.same("all is as THE IMAGE", x, y);
    }
}
