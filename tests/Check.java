import java.util.function.ToLongFunction;

/** What the tests share: an answer that is due, a call that is refused and changes nothing, objects made by few words. */
final class Check {
    private int passed;
    private int failed;

    void due(String call, long got, long want) {
        if (got == want) {
            passed++;
        } else {
            failed++;
            System.out.println(call + " answered " + got + ", due is " + want);
        }
    }

    void due(String call, String got, String want) {
        if (got.equals(want)) {
            passed++;
        } else {
            failed++;
            System.out.println(call + " is\n  " + got + ", due is\n  " + want);
        }
    }

    /** The call is asked at x, and all that can be seen of x is then as it was without that call. */
    void refuses(Lift x, String call, ToLongFunction<Lift> asked, long want) {
        Lift before = x.again();
        due(call, asked.applyAsLong(x), want);
        same("all there is behind " + call, x, before);
    }

    /** An answer that is no refusal, of a call that must change nothing. */
    void asks(Lift x, String call, ToLongFunction<Lift> asked, long want) {
        refuses(x, call, asked, want);
    }

    /** All that can be seen of x is as it is of the other one. */
    void same(String what, Lift x, Lift other) {
        for (Look look : Look.values()) {
            due(what, look.at(x.again()), look.at(other.again()));
        }
    }

    /** Something that can be seen of x is not as it is of the other one. */
    void differ(String what, Lift x, Lift other) {
        int other1 = 0;
        for (Look look : Look.values()) {
            other1 += look.at(x.again()).equals(look.at(other.again())) ? 0 : 1;
        }
        due(what + " shows", other1 > 0 ? 1 : 0, 1);
    }

    int passed() {
        return passed;
    }

    int failed() {
        return failed;
    }

    void end(String name) {
        System.out.println(name + ": " + passed + " passed, " + failed + " failed");
        if (failed != 0 || passed == 0) {
            System.exit(1);
        }
    }

    /** HOLDERS of those STRENGTHS, and THINGS of those WEIGHTS, nobody's. */
    static Lift holders(int[] strengths, int... weights) {
        Lift x = new Lift();
        for (int strength : strengths) {
            x.person(0, 0, strength, 0);
        }
        things(x, weights);
        return x;
    }

    /** THINGS of those WEIGHTS, nobody's. */
    static void things(Lift x, int... weights) {
        for (int weight : weights) {
            x.thing(weight);
        }
    }

    /** The THINGS from 0 on become theirs (-1: nobody's). */
    static void owners(Lift x, int... owners) {
        for (int t = 0; t < owners.length; t++) {
            x.give(t, owners[t]);
        }
    }

    static int[] of(int... n) {
        return n;
    }

    static void feed(Lift x, String text) {
        for (int i = 0; i < text.length(); i++) {
            x.feed(text.charAt(i));
        }
    }

    static int land(Lift x, String text) {
        feed(x, text);
        return x.land();
    }
}
