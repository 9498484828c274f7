import java.util.function.LongSupplier;

/** What the tests share: an answer that is due, a call that is refused and changes nothing, a look at all there is. */
final class Check {
    private int passed;
    private int failed;

    void due(String call, long got, long want) {
        if (got == want) {
            passed++;
        } else {
            failed++;
            System.out.println(call + " answered " + got + ", due is " + want);
        }
    }

    void due(String call, String got, String want) {
        if (got.equals(want)) {
            passed++;
        } else {
            failed++;
            System.out.println(call + " is\n  " + got + ", due is\n  " + want);
        }
    }

    void refuses(OwnsLift x, String call, LongSupplier asked, long want) {
        String before = look(x);
        due(call, asked.getAsLong(), want);
        due("all there is behind " + call, look(x), before);
    }

    /** An answer that is no refusal, of a call that must change nothing. */
    void asks(OwnsLift x, String call, LongSupplier asked, long want) {
        refuses(x, call, asked, want);
    }

    void end(String name) {
        System.out.println(name + ": " + passed + " passed, " + failed + " failed");
        if (failed != 0 || passed == 0) {
            System.exit(1);
        }
    }

    /** All that can be seen without changing anything (THE TAPE by its size alone). */
    static String look(OwnsLift x) {
        StringBuilder s = new StringBuilder();
        for (int what = 0; what < 6; what++) {
            s.append(x.count(what)).append(' ');
        }
        s.append("y").append(x.when()).append(" l").append(x.looked());
        int things = x.count(1);
        for (int p = 0; p < x.count(0); p++) {
            s.append(" p");
            for (int what = 0; what < 10; what++) {
                s.append(' ').append(x.of(p, what));
            }
            for (int t = 0; t < things; t++) {
                s.append(" k").append(x.like(p, t));
            }
        }
        for (int t = 0; t < things; t++) {
            s.append(" t").append(x.at(t, 0)).append(',').append(x.at(t, 1));
        }
        for (int i = 0; x.trace(i) != OwnsLift.NONE && i < 20; i++) {
            s.append(" b").append(x.trace(i));
        }
        return s.toString();
    }

    /** HOLDERS of those STRENGTHS, and THINGS of those WEIGHTS, nobody's. */
    static OwnsLift holders(int[] strengths, int... weights) {
        OwnsLift x = new OwnsLift();
        for (int strength : strengths) {
            x.person(0, 0, strength, 0);
        }
        for (int weight : weights) {
            x.thing(weight);
        }
        return x;
    }

    static int[] of(int... n) {
        return n;
    }

    static void feed(OwnsLift x, String text) {
        for (int i = 0; i < text.length(); i++) {
            x.feed(text.charAt(i));
        }
    }

    static int land(OwnsLift x, String text) {
        feed(x, text);
        return x.land();
    }
}
