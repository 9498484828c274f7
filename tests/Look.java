/** All that can be seen of an object. Some looks change it, so that each is taken at an object made again. */
enum Look {
    COUNTED, ASKED, EXCHANGED, BENCHED, LOOKED, LANDED, UNDONE;

    String at(Lift x) {
        StringBuilder s = new StringBuilder(name()).append(':');
        switch (this) {
            case COUNTED: counts(x, s); trace(x, s); people(x, s); things(x, s); break;
            case ASKED: asked(x, s); break;
            case EXCHANGED: exchanged(x, s); break;
            case BENCHED: benched(x, s); break;
            case LOOKED: looked(x, s); break;
            case LANDED: landed(x, s); break;
            default: undone(x, s);
        }
        return s.toString();
    }

    private static void put(StringBuilder s, long n) {
        s.append(' ').append(n);
    }

    private static void counts(Lift x, StringBuilder s) {
        for (int what = 0; what < 6; what++) {
            put(s, x.count(what));
        }
        s.append(" when").append(x.when()).append(" looked").append(x.looked());
    }

    private static void trace(Lift x, StringBuilder s) {
        s.append(" trace");
        for (int i = 0; i < 8; i++) {
            put(s, x.trace(i));
        }
    }

    private static void people(Lift x, StringBuilder s) {
        for (int p = 0; p < x.count(0); p++) {
            s.append(" person").append(p);
            for (int what = 0; what < 10; what++) {
                put(s, x.of(p, what));
            }
            for (int k = 0; k < 7; k++) {
                put(s, x.as(p, k));
            }
        }
    }

    private static void things(Lift x, StringBuilder s) {
        int people = x.count(0);
        for (int t = 0; t < x.count(1); t++) {
            s.append(" thing").append(t).append(' ').append(x.at(t, 0)).append(' ').append(x.at(t, 1));
            for (int p = 0; p < people; p++) {
                put(s, x.like(p, t));
            }
        }
    }

    private static void asked(Lift x, StringBuilder s) {
        int people = x.count(0);
        int things = x.count(1);
        for (int t = -1; t < things; t++) {
            put(s, x.best(t));
        }
        s.append(" most").append(x.most()).append(" moved").append(x.moved());
        for (int p = 0; p < people; p++) {
            s.append(" person").append(p);
            put(s, x.train(p));
            for (int what = 0; what < 2; what++) {
                put(s, x.gives(p, what));
                put(s, x.parts(p, what));
            }
        }
    }

    private static void exchanged(Lift x, StringBuilder s) {
        int people = x.count(0);
        for (int what = 0; what < 2; what++) {
            put(s, x.swap(what));
            put(s, x.odds(what));
            for (int one = 0; one < people; one++) {
                for (int other = 0; other < people; other++) {
                    put(s, x.fair(one, other, what));
                }
            }
            for (int weight = 0; weight <= 60; weight += weight < 12 ? 1 : 7) {
                put(s, x.had(weight, what));
            }
        }
        s.append(" rest").append(x.rest());
    }

    /** Each is made a little weaker than would do, time and again, so that the order shows in which THINGS are dropped. */
    private static void benched(Lift x, StringBuilder s) {
        int people = x.count(0);
        for (int p = 0; p < people; p++) {
            s.append(" person").append(p);
            put(s, x.bench(p));
            for (int n = 0; n < 7 && x.of(p, 5) > 0; n++) {
                int more = x.of(p, 4) - x.of(p, 2);
                x.strength(p, Math.min(99, Math.max(0, x.of(p, 5) - 1 - more)));
                put(s, x.bench(p));
                put(s, x.of(p, 8));
            }
        }
        for (int t = 0; t < x.count(1); t++) {
            put(s, x.at(t, 1));
        }
    }

    /** What was SEEN, by where it is not so: nobody OVER, then each in turn owning all THINGS and lifting little. */
    private static void looked(Lift x, StringBuilder s) {
        put(s, x.looked());
        int people = x.count(0);
        for (int p = 0; p < people; p++) {
            x.strength(p, 0);
        }
        for (int owner = -1; owner < people; owner++) {
            for (int t = 0; t < x.count(1); t++) {
                x.give(t, owner);
            }
            put(s, x.looked());
        }
        for (int n = x.count(3); n < 13 && people > 0; n++) {
            put(s, x.see(0, true));
        }
        put(s, x.see(-1, true));
    }

    /** What stands on THE TAPE, by the LAND or the FAULT that it is. */
    private static void landed(Lift x, StringBuilder s) {
        put(s, x.land());
        counts(x, s);
        things(x, s);
        for (int p = 0; p < x.count(0); p++) {
            put(s, x.of(p, 4));
            put(s, x.of(p, 7));
        }
        put(s, x.year());
        things(x, s);
    }

    /** THE IMAGE, by what there is when it is given back. */
    private static void undone(Lift x, StringBuilder s) {
        put(s, x.undo());
        counts(x, s);
        people(x, s);
        things(x, s);
        put(s, x.land());
        counts(x, s);
        put(s, x.undo());
    }
}
