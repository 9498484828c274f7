import java.util.ArrayList;
import java.util.List;
import java.util.Random;

/** Long runs of calls, from fixed seeds, answered by the program and by the model: each answer must be the same. */
public final class ModelTest {
    private static final Check c = new Check();
    private static final int RUNS = 150;
    private static final int SHORT_RUNS = 3000;
    private static final int WILD_RUNS = 300;
    private static final int TEXTS = 2000;
    /** An object answers so many calls; everything() asks fewer than the last of these. */
    private static final int CALLS = 512;
    private static final int AT_LAST = 120;

    private final Random random;
    private final OwnsLift program = new OwnsLift();
    private final Model model = new Model();
    private final List<String> calls = new ArrayList<>();
    private boolean same = true;

    private ModelTest(int seed) {
        random = new Random(seed);
    }

    public static void main(String[] args) {
        for (int seed = 1; seed <= RUNS; seed++) {
            new ModelTest(seed).run();
        }
        for (int seed = 1; seed <= SHORT_RUNS; seed++) {
            new ModelTest(-seed).shortRun();
        }
        for (int seed = 1; seed <= WILD_RUNS; seed++) {
            new ModelTest(100000 + seed).wildRun();
        }
        for (int seed = 1; seed <= TEXTS; seed++) {
            new ModelTest(seed).texts();
        }
        c.end("ModelTest");
    }

    private boolean mayAsk() {
        return calls.size() < CALLS - AT_LAST;
    }

    private long ask(String name, int... n) {
        if (calls.size() >= CALLS) {
            return 0;
        }
        int[] a = new int[4];
        System.arraycopy(n, 0, a, 0, n.length);
        calls.add(name + java.util.Arrays.toString(n));
        long got = answer(name, a[0], a[1], a[2], a[3]);
        long want = model.call(name, a[0], a[1], a[2], a[3]);
        if (got != want && same) {
            same = false;
            System.out.println(calls);
        }
        c.due(calls.get(calls.size() - 1), got, want);
        return got;
    }

    private long answer(String name, int a, int b, int d, int e) {
        OwnsLift x = program;
        switch (name) {
            case "feed": return x.feed(a);
            case "land": return x.land();
            case "person": return x.person(a, b, d, e);
            case "of": return x.of(a, b);
            case "strength": return x.strength(a, b);
            case "row": return x.row(a, b);
            case "thing": return x.thing(a);
            case "at": return x.at(a, b);
            case "give": return x.give(a, b);
            case "like": return x.like(a, b);
            case "when": return x.when();
            case "bench": return x.bench(a);
            case "year": return x.year();
            case "best": return x.best(a);
            case "most": return x.most();
            case "train": return x.train(a);
            case "moved": return x.moved();
            case "gives": return x.gives(a, b);
            case "parts": return x.parts(a, b);
            case "swap": return x.swap(a);
            case "rest": return x.rest();
            case "fair": return x.fair(a, b, d);
            case "had": return x.had(a, b);
            case "odds": return x.odds(a);
            case "see": return x.see(a, b != 0);
            case "looked": return x.looked();
            case "act": return x.act(a, b, d);
            case "trace": return x.trace(a);
            case "as": return x.as(a, b);
            case "image": return x.image();
            case "undo": return x.undo();
            case "count": return x.count(a);
            default: throw new IllegalArgumentException(name);
        }
    }

    // ---- texts

    private int below(int n) {
        return random.nextInt(n);
    }

    private String number() {
        return String.valueOf(below(3) == 0 ? below(100) : below(6));
    }

    private String test() {
        return "" + "pkatwy".charAt(below(6)) + "<=>".charAt(below(3)) + number();
    }

    private String factor(int deep) {
        int n = below(10);
        if (deep < 6 && n < 2) {
            return "!" + factor(deep + 1);
        }
        return deep < 6 && n < 5 ? "(" + either(deep + 1) + ")" : test();
    }

    private String either(int deep) {
        StringBuilder s = new StringBuilder(factor(deep));
        for (int n = below(3); n > 0; n--) {
            s.append("&|".charAt(below(2))).append(factor(deep));
        }
        return s.toString();
    }

    private String clause() {
        String word = List.of("like", "like", "lift", "wear", "ill").get(below(5));
        return word + " " + (word.equals("ill") ? below(12) : below(30)) + " " + either(below(4));
    }

    /** What is liked by one of the PEOPLE more than by another, so that exchanges serve. */
    private String tastes() {
        StringBuilder s = new StringBuilder();
        boolean opposed = below(2) == 0;
        for (int n = 0; n < (opposed ? 4 : 6); n++) {
            s.append(n == 0 ? "" : ";").append(below(8) == 0 ? "ill " : "like ").append(1 + below(9)).append(" ");
            s.append(opposed ? oneTaste("=") + "|" + oneTaste("=") : oneTaste("<=>"));
        }
        return s.toString();
    }

    private String oneTaste(String signs) {
        return "p" + signs.charAt(below(signs.length())) + below(4) + "&t" + "<=>".charAt(below(3)) + below(7);
    }

    private String text() {
        if (below(2) == 0) {
            return tastes();
        }
        StringBuilder s = new StringBuilder(clause());
        for (int n = below(10); n > 0 && s.length() < 70; n--) {
            s.append(';').append(clause());
        }
        return s.length() > 100 ? text() : s.toString();
    }

    /** A text with a sign left out, put in or another for it, or cut. */
    private String spoilt(String text) {
        if (text.isEmpty()) {
            return text;
        }
        StringBuilder s = new StringBuilder(text);
        int at = below(text.length());
        char sign = "likefwearp=<>!&|(); 0123459kty".charAt(below(30));
        switch (below(4)) {
            case 0: s.deleteCharAt(at); break;
            case 1: s.insert(at, sign); break;
            case 2: s.setCharAt(at, sign); break;
            default: s.setLength(at);
        }
        return s.length() > 100 ? s.substring(0, 100) : s.toString();
    }

    private long land(String text) {
        for (char sign : text.toCharArray()) {
            ask("feed", sign);
        }
        return ask("land");
    }

    private void texts() {
        String text = text();
        land(below(3) == 0 ? text : below(3) == 0 ? spoilt(spoilt(text)) : spoilt(text));
    }

    // ---- runs

    private int counted(int what) {
        return (int) model.call("count", what, 0, 0, 0);
    }

    private int person() {
        return below(40) == 0 ? below(7) - 1 : below(Math.max(1, counted(0)));
    }

    private int thing() {
        return below(40) == 0 ? below(10) - 1 : below(Math.max(1, counted(1)));
    }

    private int what(int most) {
        return below(30) == 0 ? below(14) - 2 : below(most);
    }

    private void run() {
        if (below(8) != 0) {
            land(text());
        }
        int strong = below(3) == 0 ? 30 : 0;
        for (int n = 1 + below(5); n > 0; n--) {
            ask("person", below(7), below(10), strong + below(60), below(100));
        }
        int heavy = below(2) == 0 ? 15 : 51;
        for (int n = 1 + below(7); n > 0; n--) {
            ask("thing", below(3) == 0 ? below(10) : below(heavy));
        }
        for (int t = 0; t < counted(1); t++) {
            ask("give", t, person());
        }
        for (int n = 0; n < 300 && mayAsk(); n++) {
            step();
        }
        everything();
    }

    /** All there is to ask, once, of people who own nearly all and differ in what they like. */
    private void shortRun() {
        land(tastes());
        int people = 2 + below(3);
        int strong = 10 + below(60);
        for (int p = 0; p < people; p++) {
            ask("person", below(7), below(10), strong + below(30), below(100));
        }
        for (int t = 0; t < 7; t++) {
            ask("thing", below(2) == 0 ? below(51) : 5 + below(15));
            ask("give", t, below(15) == 0 ? -1 : below(people));
        }
        ask("swap", 0);
        ask("swap", 1);
        ask("rest");
        for (int p = 0; p < people; p++) {
            ask("fair", p, (p + 1) % people, 0);
            ask("fair", p, (p + 1) % people, 1);
            ask("gives", p, 0);
            ask("gives", p, 1);
            ask("parts", p, 0);
            ask("parts", p, 1);
        }
        ask("odds", 0);
        ask("odds", 1);
        if (below(15) == 0) {
            ask("train", below(people));
            ask("best", below(7));
            ask("moved");
            ask("most");
        }
        for (int n = 0; n < 6; n++) {
            ask("bench", below(people));
        }
        for (int t = 0; t < 7; t++) {
            ask("at", t, 1);
        }
    }

    private static final List<String> NAMES = List.of("feed", "land", "person", "of", "strength", "row", "thing", "at",
        "give", "like", "when", "bench", "year", "gives", "parts", "swap", "rest", "fair", "had", "odds", "see", "looked",
        "act", "trace", "as", "image", "undo", "count");
    private static final List<String> DEAR = List.of("best", "most", "train", "moved");
    private static final int[] EDGES = {Integer.MIN_VALUE, Integer.MIN_VALUE + 1, -1001, -6, -5, -2, -1, -1, 0, 0, 0, 0, 1, 1,
        1, 2, 2, 3, 3, 4, 5, 6, 7, 9, 10, 12, 20, 50, 51, 99, 100, 127, 128, 400, 401, Integer.MAX_VALUE};

    private int edge() {
        return EDGES[below(EDGES.length)];
    }

    /** Any call with any numbers, in any order. */
    private void wildRun() {
        land(text());
        for (int n = 0; n < 300 && mayAsk(); n++) {
            String name = below(60) == 0 ? DEAR.get(below(4)) : NAMES.get(below(NAMES.size()));
            ask(name, edge(), edge(), name.equals("act") ? random.nextInt() : edge(), edge());
        }
        everything();
    }

    private void step() {
        switch (below(44)) {
            case 0: if (below(4) == 0) { land(below(3) == 0 ? spoilt(text()) : text()); } break;
            case 1: ask("person", what(7), what(10), below(110) - 5, below(110) - 5); break;
            case 2: ask("strength", person(), below(5) == 0 ? below(110) - 5 : below(70)); break;
            case 3: case 4: ask("row", person(), below(6) == 0 ? -1 : thing()); break;
            case 5: ask("thing", below(60) - 5); break;
            case 6: case 7: case 8: case 9: case 10: ask("give", thing(), below(8) == 0 ? -1 : person()); break;
            case 11: ask("like", person(), thing()); break;
            case 12: case 13: if (below(2) == 0) { ask("bench", person()); } break;
            case 14: if (below(3) == 0) { ask("year"); } break;
            case 15: if (below(4) == 0) { ask("best", thing()); } break;
            case 16: if (below(4) == 0) { ask("best", -1); } break;
            case 17: if (below(4) == 0) { ask("most"); } break;
            case 18: if (below(4) == 0) { ask("train", person()); } break;
            case 19: if (below(4) == 0) { ask("moved"); } break;
            case 20: ask("gives", person(), what(2)); break;
            case 21: ask("parts", person(), what(2)); break;
            case 22: ask("swap", what(2)); break;
            case 23: ask("rest"); break;
            case 24: case 25: ask("fair", person(), person(), what(2)); break;
            case 26: ask("had", below(410) - 5, what(2)); break;
            case 27: ask("had", below(60), what(2)); break;
            case 28: ask("odds", what(2)); break;
            case 29: case 30: case 31: ask("see", below(12) == 0 ? -1 : person(), below(2)); break;
            case 32: case 33: ask("looked"); break;
            case 34: case 35: ask("act", person(), what(3), below(3) == 0 ? random.nextInt() : below(50)); break;
            case 36: ask("trace", what(7)); break;
            case 37: ask("as", person(), what(7)); break;
            case 38: if (below(3) == 0) { ask("image"); } break;
            case 39: if (below(8) == 0) { ask("undo"); } break;
            case 40: ask("count", what(6)); break;
            case 41: ask("at", thing(), what(2)); break;
            case 42: ask("of", person(), what(10)); break;
            default: if (below(8) == 0) { ask("feed", below(140) - 5); }
        }
    }

    private void everything() {
        ask("best", -1);
        ask("most");
        ask("moved");
        for (int t = 0; t < counted(1); t++) {
            ask("at", t, 0);
            ask("at", t, 1);
        }
        for (int p = 0; p < counted(0); p++) {
            ask("train", p);
            for (int what = 0; what < 10; what++) {
                ask("of", p, what);
            }
            for (int t = 0; t < counted(1); t++) {
                ask("like", p, t);
            }
        }
        for (int what = 0; what < 6; what++) {
            ask("count", what);
        }
        ask("when");
        ask("looked");
    }
}
