import java.util.ArrayList;
import java.util.List;
import java.util.function.ToLongFunction;

/** An OwnsLift that counts its calls, of which the document promises 512, and can be made again by the same calls. */
final class Lift {
    static final int CALLS = 512;
    private final OwnsLift own = new OwnsLift();
    private final List<ToLongFunction<OwnsLift>> past = new ArrayList<>();

    private long call(ToLongFunction<OwnsLift> asked) {
        if (past.size() >= CALLS) {
            throw new IllegalStateException("this test asks more than the 512 calls that are promised");
        }
        past.add(asked);
        return asked.applyAsLong(own);
    }

    private int number(ToLongFunction<OwnsLift> asked) {
        return (int) call(asked);
    }

    int calls() {
        return past.size();
    }

    /** A new object on which all calls of this one have been made. */
    Lift again() {
        Lift other = new Lift();
        for (ToLongFunction<OwnsLift> asked : past) {
            other.call(asked);
        }
        return other;
    }

    int feed(int sign) {
        return number(o -> o.feed(sign));
    }

    int land() {
        return number(o -> o.land());
    }

    int person(int kind, int v, int strength, int age) {
        return number(o -> o.person(kind, v, strength, age));
    }

    int of(int person, int what) {
        return number(o -> o.of(person, what));
    }

    int strength(int person, int n) {
        return number(o -> o.strength(person, n));
    }

    int row(int person, int thing) {
        return number(o -> o.row(person, thing));
    }

    int thing(int weight) {
        return number(o -> o.thing(weight));
    }

    int at(int thing, int what) {
        return number(o -> o.at(thing, what));
    }

    int give(int thing, int person) {
        return number(o -> o.give(thing, person));
    }

    int like(int person, int thing) {
        return number(o -> o.like(person, thing));
    }

    int when() {
        return number(o -> o.when());
    }

    int bench(int person) {
        return number(o -> o.bench(person));
    }

    int year() {
        return number(o -> o.year());
    }

    int best(int thing) {
        return number(o -> o.best(thing));
    }

    int most() {
        return number(o -> o.most());
    }

    int train(int person) {
        return number(o -> o.train(person));
    }

    int moved() {
        return number(o -> o.moved());
    }

    int gives(int person, int what) {
        return number(o -> o.gives(person, what));
    }

    long parts(int person, int part) {
        return call(o -> o.parts(person, part));
    }

    int swap(int what) {
        return number(o -> o.swap(what));
    }

    int rest() {
        return number(o -> o.rest());
    }

    int fair(int one, int other, int what) {
        return number(o -> o.fair(one, other, what));
    }

    int had(int weight, int what) {
        return number(o -> o.had(weight, what));
    }

    long odds(int part) {
        return call(o -> o.odds(part));
    }

    int see(int person, boolean could) {
        return number(o -> o.see(person, could));
    }

    int looked() {
        return number(o -> o.looked());
    }

    int act(int person, int act, int x) {
        return number(o -> o.act(person, act, x));
    }

    int trace(int i) {
        return number(o -> o.trace(i));
    }

    int as(int person, int k) {
        return number(o -> o.as(person, k));
    }

    int image() {
        return number(o -> o.image());
    }

    int undo() {
        return number(o -> o.undo());
    }

    int count(int what) {
        return number(o -> o.count(what));
    }
}
