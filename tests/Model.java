import java.math.BigInteger;
import java.util.ArrayList;
import java.util.Arrays;
import java.util.HashMap;
import java.util.List;
import java.util.Map;

/** A second writing of the document, which tries everything out and keeps nothing in mind. */
final class Model {
    private static final int NONE = -1, BAD = -2, STATE = -3, FULL = -4;
    private static final int[] ABOVE = {-1, 0, 0, 0, 1, 2, 3};

    private static final class P {
        int kind, v, strength, age;
        List<Integer> row = new ArrayList<>();
    }

    private static final class T {
        int weight;
        int owner = -5;
    }

    private static final class All {
        List<P> people = new ArrayList<>();
        List<T> things = new ArrayList<>();
        List<String> lands = new ArrayList<>();
        String tape = "";
        int year;
        List<int[]> seen = new ArrayList<>();

        All copy() {
            All a = new All();
            for (P p : people) {
                P q = new P();
                q.kind = p.kind;
                q.v = p.v;
                q.strength = p.strength;
                q.age = p.age;
                q.row.addAll(p.row);
                a.people.add(q);
            }
            for (T t : things) {
                T u = new T();
                u.weight = t.weight;
                u.owner = t.owner;
                a.things.add(u);
            }
            a.lands.addAll(lands);
            a.tape = tape;
            a.year = year;
            a.seen.addAll(seen);
            return a;
        }
    }

    private All now = new All();
    private All image;
    private List<Integer> trace = new ArrayList<>();

    // ---- the language of LANDS, by texts cut in pieces

    /** Whether E holds; null if it is none. */
    private static Boolean e(String text, int open, Map<Character, Integer> facts) {
        boolean any = false;
        for (String t : cut(text, '|')) {
            boolean all = true;
            for (String f : cut(t, '&')) {
                Boolean holds = f(f, open, facts);
                if (holds == null) {
                    return null;
                }
                all &= holds;
            }
            any |= all;
        }
        return any;
    }

    private static Boolean f(String text, int open, Map<Character, Integer> facts) {
        if (open > 5) {
            return null;
        }
        if (text.startsWith("!")) {
            Boolean holds = f(text.substring(1), open + 1, facts);
            return holds == null ? null : !holds;
        }
        if (text.startsWith("(") && text.endsWith(")")) {
            return open + 1 > 5 ? null : e(text.substring(1, text.length() - 1), open + 1, facts);
        }
        if (!text.matches("[pkatwy][<=>](0|[1-9][0-9]?)")) {
            return null;
        }
        int fact = facts.get(text.charAt(0));
        int number = Integer.parseInt(text.substring(2));
        char sign = text.charAt(1);
        return sign == '<' ? fact < number : sign == '>' ? fact > number : fact == number;
    }

    /** Cut at each sign that stands in no ( ). */
    private static List<String> cut(String text, char sign) {
        List<String> pieces = new ArrayList<>();
        int deep = 0;
        int from = 0;
        for (int i = 0; i < text.length(); i++) {
            char c = text.charAt(i);
            deep += c == '(' ? 1 : c == ')' ? -1 : 0;
            if (c == sign && deep == 0) {
                pieces.add(text.substring(from, i));
                from = i + 1;
            }
        }
        pieces.add(text.substring(from));
        return pieces;
    }

    private static Map<Character, Integer> facts(int p, int k, int a, int t, int w, int y) {
        Map<Character, Integer> facts = new HashMap<>();
        facts.put('p', p);
        facts.put('k', k);
        facts.put('a', a);
        facts.put('t', t);
        facts.put('w', w);
        facts.put('y', y);
        return facts;
    }

    static boolean isLand(String text) {
        String[] clauses = text.split(";", -1);
        if (clauses.length > 10) {
            return false;
        }
        for (String clause : clauses) {
            String[] parts = clause.split(" ", -1);
            if (parts.length != 3 || !parts[0].matches("like|lift|wear|ill")
                    || !parts[1].matches("0|[1-9][0-9]?") || e(parts[2], 0, facts(0, 0, 0, 0, 0, 0)) == null) {
                return false;
            }
        }
        return true;
    }

    private static final List<String> ENDS = new ArrayList<>();

    static {
        for (String clause : List.of("like 1 p=1", "lift 1 p=1", "wear 1 p=1", "ill 1 p=1")) {
            for (int from = 0; from <= clause.length(); from++) {
                for (int closing = 0; closing <= 5; closing++) {
                    ENDS.add(clause.substring(from) + ")".repeat(closing));
                }
            }
        }
    }

    private static boolean canGoOn(String start) {
        for (String end : ENDS) {
            if (isLand(start + end)) {
                return true;
            }
        }
        return false;
    }

    /** The FAULT of a text that is no LAND. */
    static int fault(String text) {
        for (int size = 1; size <= text.length(); size++) {
            if (!canGoOn(text.substring(0, size))) {
                return size - 1;
            }
        }
        return text.length();
    }

    private int together(String word, int p, int t) {
        if (now.lands.isEmpty()) {
            return 0;
        }
        boolean someone = p >= 0;
        boolean something = t >= 0;
        Map<Character, Integer> facts = facts(
            someone ? p : 99, someone ? now.people.get(p).kind : 99, someone ? now.people.get(p).age / 10 : 99,
            something ? t : 99, something ? now.things.get(t).weight / 10 : 99, now.year % 10);
        int sum = 0;
        for (String clause : now.lands.get(now.lands.size() - 1).split(";")) {
            String[] parts = clause.split(" ");
            if (parts[0].equals(word) && e(parts[2], 0, facts)) {
                sum += Integer.parseInt(parts[1]);
            }
        }
        return sum;
    }

    // ---- how all stands

    private boolean isPerson(int p) {
        return p >= 0 && p < now.people.size();
    }

    private boolean isThing(int t) {
        return t >= 0 && t < now.things.size();
    }

    private int likes(int p, int t) {
        return 1 + together("like", p, t);
    }

    private int lifts(int p) {
        P one = now.people.get(p);
        return one.strength + together("lift", p, -1) + (one.kind == 3 || one.kind == 6 ? one.v : 0);
    }

    private int load(int p) {
        int sum = 0;
        for (T t : now.things) {
            sum += t.owner == p ? t.weight : 0;
        }
        return sum;
    }

    private boolean over(int p) {
        return load(p) > lifts(p);
    }

    private int ill(int p) {
        return Math.min(10, together("ill", p, -1));
    }

    private List<Integer> own(int p) {
        List<Integer> own = new ArrayList<>();
        for (int t = 0; t < now.things.size(); t++) {
            if (now.things.get(t).owner == p) {
                own.add(t);
            }
        }
        return own;
    }

    private static int bits(List<Integer> set) {
        int bits = 0;
        for (int t : set) {
            bits += 1 << t;
        }
        return bits;
    }

    private static List<Integer> set(int bits) {
        List<Integer> set = new ArrayList<>();
        for (int t = 0; t < 7; t++) {
            if ((bits & 1 << t) != 0) {
                set.add(t);
            }
        }
        return set;
    }

    private int weightOf(List<Integer> set) {
        int sum = 0;
        for (int t : set) {
            sum += now.things.get(t).weight;
        }
        return sum;
    }

    private int likeOf(int p, List<Integer> set) {
        int sum = 0;
        for (int t : set) {
            sum += likes(p, t);
        }
        return sum;
    }

    // ---- the calls

    long call(String name, int a, int b, int c, int d) {
        switch (name) {
            case "feed": return feed(a);
            case "land": return land();
            case "person": return person(a, b, c, d);
            case "of": return of(a, b);
            case "strength": return strength(a, b);
            case "row": return row(a, b);
            case "thing": return thing(a);
            case "at": return at(a, b);
            case "give": return give(a, b);
            case "like": return !isPerson(a) || !isThing(b) ? NONE : likes(a, b);
            case "when": return now.year;
            case "bench": return !isPerson(a) ? NONE : bench(a);
            case "year": return year();
            case "best": return best(a);
            case "most": return most();
            case "train": return !isPerson(a) ? NONE : bestRow(a)[0] - bestRow(-1)[0];
            case "moved": return moved();
            case "gives": return gives(a, b);
            case "parts": return parts(a, b);
            case "swap": return swap(a);
            case "rest": return rest();
            case "fair": return fair(a, b, c);
            case "had": return had(a, b);
            case "odds": return odds(a);
            case "see": return see(a, b != 0);
            case "looked": return looked();
            case "act": return act(a, b, c);
            case "trace": return a < 0 || a >= Math.min(20, trace.size()) ? NONE : trace.get(a);
            case "as": return as(a, b);
            case "image": image = now.copy(); return now.people.size();
            case "undo": return undo();
            case "count": return count(a);
            default: throw new IllegalArgumentException(name);
        }
    }

    private int feed(int sign) {
        if (sign < 0 || sign > 127) {
            return BAD;
        }
        if (now.tape.length() == 100) {
            return FULL;
        }
        now.tape += (char) sign;
        return now.tape.length();
    }

    private int land() {
        if (now.lands.size() == 5) {
            return FULL;
        }
        String text = now.tape;
        now.tape = "";
        if (!isLand(text)) {
            return -10 - fault(text);
        }
        now.lands.add(text);
        return now.lands.size() - 1;
    }

    private int person(int kind, int v, int strength, int age) {
        if (kind < 0 || kind > 6) {
            return NONE;
        }
        if (v < 0 || v > 9 || strength < 0 || strength > 99 || age < 0 || age > 99) {
            return BAD;
        }
        if (now.people.size() == 4) {
            return FULL;
        }
        P p = new P();
        p.kind = kind;
        p.v = v;
        p.strength = strength;
        p.age = age;
        now.people.add(p);
        return now.people.size() - 1;
    }

    private int of(int p, int what) {
        if (!isPerson(p) || what < 0 || what > 9) {
            return NONE;
        }
        P one = now.people.get(p);
        int[] all = {one.kind, one.v, one.strength, one.age, lifts(p), load(p), over(p) ? 1 : 0, ill(p),
            bits(own(p)), one.row.size()};
        return all[what];
    }

    private int strength(int p, int n) {
        if (!isPerson(p)) {
            return NONE;
        }
        if (n < 0 || n > 99) {
            return BAD;
        }
        int was = now.people.get(p).strength;
        now.people.get(p).strength = n;
        return was;
    }

    private int row(int p, int t) {
        if (!isPerson(p) || !isThing(t) && t != -1) {
            return NONE;
        }
        P one = now.people.get(p);
        if (one.kind != 6) {
            return STATE;
        }
        if (t == -1) {
            one.row.clear();
            return 0;
        }
        if (one.row.size() == 7) {
            return FULL;
        }
        one.row.add(t);
        return one.row.size();
    }

    private int thing(int weight) {
        if (weight < 0 || weight > 50) {
            return BAD;
        }
        if (now.things.size() == 7) {
            return FULL;
        }
        T t = new T();
        t.weight = weight;
        now.things.add(t);
        return now.things.size() - 1;
    }

    private int at(int t, int what) {
        if (!isThing(t) || what < 0 || what > 1) {
            return -1001;
        }
        return what == 0 ? now.things.get(t).weight : now.things.get(t).owner;
    }

    private int give(int t, int p) {
        if (!isThing(t) || !isPerson(p) && p != -1) {
            return -1001;
        }
        int was = now.things.get(t).owner;
        now.things.get(t).owner = p == -1 ? -5 : p;
        return was;
    }

    private int bench(int p) {
        int dropped = 0;
        while (over(p)) {
            int t = drop(p);
            int kind = now.people.get(p).kind;
            now.things.get(t).owner = -5;
            if (kind == 2 || kind == 5) {
                for (int far = now.people.size() - 1; far >= 1; far--) {
                    int q = (p + far) % now.people.size();
                    if (load(q) - (now.things.get(t).owner == q ? now.things.get(t).weight : 0)
                            + now.things.get(t).weight <= lifts(q)) {
                        now.things.get(t).owner = q;
                    }
                }
            }
            dropped++;
        }
        return dropped;
    }

    private int drop(int p) {
        List<Integer> own = own(p);
        P one = now.people.get(p);
        if (one.kind == 6) {
            for (int t : one.row) {
                if (own.contains(t) && now.things.get(t).weight > 0) {
                    return t;
                }
            }
        }
        own.sort((t, u) -> {
            int wt = now.things.get(t).weight;
            int wu = now.things.get(u).weight;
            double dear = wt == 0 ? 1e9 : (double) likes(p, t) / wt;
            double dearU = wu == 0 ? 1e9 : (double) likes(p, u) / wu;
            int byKind = one.kind == 1 ? wu - wt
                : one.kind == 4 ? (Math.abs(dear - dearU) < 1e-9 ? 0 : Double.compare(dear, dearU))
                : one.kind == 5 ? likes(p, u) - likes(p, t) : likes(p, t) - likes(p, u);
            return byKind != 0 ? byKind : t - u;
        });
        return own.get(0);
    }

    private int year() {
        if (now.year == 99) {
            return STATE;
        }
        now.year++;
        for (P p : now.people) {
            p.age = Math.min(99, p.age + 1);
        }
        for (int t = 0; t < now.things.size(); t++) {
            T one = now.things.get(t);
            one.weight = Math.max(0, one.weight - together("wear", -1, t));
        }
        return now.year;
    }

    /** All ways to share THINGS out, in their order: the OWNERS' numbers, that of nobody behind all. */
    private List<int[]> ways(int stronger) {
        int n = now.people.size();
        int things = now.things.size();
        int[] lifts = new int[n];
        for (int p = 0; p < n; p++) {
            lifts[p] = lifts(p) + (p == stronger ? 1 : 0);
        }
        List<int[]> ways = new ArrayList<>();
        int number = (int) Math.round(Math.pow(n + 1, things));
        for (int way = 0; way < number; way++) {
            int[] owners = new int[things];
            int[] load = new int[n + 1];
            int left = way;
            for (int t = things - 1; t >= 0; t--) {
                owners[t] = left % (n + 1);
                left /= n + 1;
                load[owners[t]] += now.things.get(t).weight;
            }
            boolean none = true;
            for (int p = 0; p < n; p++) {
                none &= load[p] <= lifts[p];
            }
            if (none) {
                ways.add(owners);
            }
        }
        return ways;
    }

    /** The LIKE, then the OWNERS. */
    private int[] bestRow(int stronger) {
        int n = now.people.size();
        int[][] like = new int[n + 1][now.things.size()];
        for (int p = 0; p < n; p++) {
            for (int t = 0; t < now.things.size(); t++) {
                like[p][t] = likes(p, t);
            }
        }
        int[] best = null;
        for (int[] way : ways(stronger)) {
            int sum = 0;
            for (int t = 0; t < way.length; t++) {
                sum += like[way[t]][t];
            }
            if (best == null || sum > best[0]) {
                best = new int[way.length + 1];
                best[0] = sum;
                System.arraycopy(way, 0, best, 1, way.length);
            }
        }
        return best;
    }

    private int best(int t) {
        if (t != -1 && !isThing(t)) {
            return -1001;
        }
        int got = bestRow(-1)[t + 1];
        return t >= 0 && got == now.people.size() ? -5 : got;
    }

    private int most() {
        int most = 0;
        for (int[] way : ways(-1)) {
            int owned = 0;
            for (int p : way) {
                owned += p < now.people.size() ? 1 : 0;
            }
            most = Math.max(most, owned);
        }
        return most;
    }

    private int moved() {
        int fewest = Integer.MAX_VALUE;
        for (int[] way : ways(-1)) {
            int other = 0;
            for (int t = 0; t < way.length; t++) {
                boolean owned = now.things.get(t).owner != -5;
                if (owned != way[t] < now.people.size()) {
                    other += 1000;
                } else if (owned && now.things.get(t).owner != way[t]) {
                    other++;
                }
            }
            fewest = Math.min(fewest, other);
        }
        return fewest >= 1000 ? -5 : fewest;
    }

    private int gives(int p, int what) {
        if (!isPerson(p) || what < 0 || what > 1) {
            return NONE;
        }
        int own = bits(own(p));
        int[] least = null;
        for (int set = 127; set >= 0; set--) {
            if ((set | own) != own || weightOf(set(own - set)) > lifts(p)) {
                continue;
            }
            int like = likeOf(p, set(set));
            if (least == null || like <= least[1]) {
                least = new int[] {set, like};
            }
        }
        return least[what];
    }

    private static long part(BigInteger above, BigInteger below, int part) {
        BigInteger common = above.gcd(below);
        return (part == 0 ? above : below).divide(common).longValueExact();
    }

    /** Of all sets that can be whole, and one THING more in part, the most. */
    private long parts(int p, int part) {
        if (!isPerson(p) || part < 0 || part > 1) {
            return Long.MIN_VALUE;
        }
        long above = 0;
        long below = 1;
        int own = bits(own(p));
        for (int set = 0; set < 128; set++) {
            if ((set | own) != own || weightOf(set(set)) > lifts(p)) {
                continue;
            }
            int left = lifts(p) - weightOf(set(set));
            for (int t = -1; t < now.things.size(); t++) {
                if (t >= 0 && ((own - set) >> t & 1) == 0) {
                    continue;
                }
                int w = t < 0 ? 1 : Math.max(1, now.things.get(t).weight);
                long a = (long) likeOf(p, set(set)) * w + (t < 0 ? 0 : (long) likes(p, t) * Math.min(left, w));
                if (t >= 0 && now.things.get(t).weight == 0) {
                    a = likeOf(p, set(set)) + likes(p, t);
                }
                if (a * below > above * w) {
                    above = a;
                    below = w;
                }
            }
        }
        return part(BigInteger.valueOf(above), BigInteger.valueOf(below), part);
    }

    private List<Integer> swaps() {
        List<Integer> swaps = new ArrayList<>();
        for (int t = 0; t < now.things.size(); t++) {
            for (int u = t + 1; u < now.things.size(); u++) {
                int a = now.things.get(t).owner;
                int b = now.things.get(u).owner;
                if (a < 0 || b < 0 || a == b || likes(a, u) <= likes(a, t) || likes(b, t) <= likes(b, u)) {
                    continue;
                }
                exchange(t, u);
                if (!over(a) && !over(b)) {
                    swaps.add(10 * t + u);
                }
                exchange(t, u);
            }
        }
        return swaps;
    }

    private void exchange(int t, int u) {
        int was = now.things.get(t).owner;
        now.things.get(t).owner = now.things.get(u).owner;
        now.things.get(u).owner = was;
    }

    private int swap(int what) {
        if (what < 0 || what > 1) {
            return NONE;
        }
        List<Integer> swaps = swaps();
        return what == 0 ? swaps.size() : swaps.isEmpty() ? -5 : swaps.get(0);
    }

    private int rest() {
        All before = now;
        now = now.copy();
        int done = 0;
        List<Integer> swaps = swaps();
        while (!swaps.isEmpty() && done <= 20) {
            exchange(swaps.get(0) / 10, swaps.get(0) % 10);
            done++;
            swaps = swaps();
        }
        now = before;
        return done > 20 ? -5 : done;
    }

    private int fair(int one, int other, int what) {
        if (!isPerson(one) || !isPerson(other) || what < 0 || what > 1) {
            return NONE;
        }
        if (one == other) {
            return BAD;
        }
        int both = bits(own(one)) + bits(own(other));
        List<Integer> fair = new ArrayList<>();
        for (int set = 0; set < 128; set++) {
            if ((set | both) != both) {
                continue;
            }
            List<Integer> mine = set(set);
            List<Integer> theirs = set(both - set);
            if (weightOf(mine) <= lifts(one) && weightOf(theirs) <= lifts(other)
                    && !(likeOf(one, theirs) > likeOf(one, mine)) && !(likeOf(other, mine) > likeOf(other, theirs))) {
                fair.add(set);
            }
        }
        return what == 0 ? fair.size() : fair.isEmpty() ? -5 : fair.get(0);
    }

    private int had(int weight, int what) {
        if (what < 0 || what > 1) {
            return NONE;
        }
        if (weight < 0 || weight > 400) {
            return BAD;
        }
        int number = 0;
        int least = -5;
        for (int set = (1 << now.things.size()) - 1; set >= 0; set--) {
            if (weightOf(set(set)) == weight) {
                number++;
                least = set;
            }
        }
        return what == 0 ? number : least;
    }

    private long odds(int part) {
        if (part < 0 || part > 1) {
            return Long.MIN_VALUE;
        }
        int n = now.people.size();
        BigInteger above = BigInteger.ZERO;
        for (int sick = 0; sick < 1 << n; sick++) {
            BigInteger likely = BigInteger.ONE;
            boolean none = true;
            for (int p = 0; p < n; p++) {
                boolean isIll = (sick >> p & 1) == 1;
                likely = likely.multiply(BigInteger.valueOf(isIll ? ill(p) : 10 - ill(p)));
                none &= load(p) <= (isIll ? lifts(p) / 2 : lifts(p));
            }
            above = none ? above.add(likely) : above;
        }
        return part(above, BigInteger.TEN.pow(n), part);
    }

    private int see(int p, boolean could) {
        if (p == -1) {
            now.seen.clear();
            return 0;
        }
        if (!isPerson(p)) {
            return NONE;
        }
        if (now.seen.size() == 12) {
            return FULL;
        }
        now.seen.add(new int[] {p, could ? 1 : 0});
        return now.seen.size();
    }

    private int looked() {
        All before = now;
        now = now.copy();
        int first = -5;
        for (int i = 0; i < now.seen.size() && first < 0; i++) {
            int[] told = now.seen.get(i);
            if (over(told[0]) == (told[1] == 1)) {
                first = i;
            }
            bench(told[0]);
        }
        now = before;
        return first;
    }

    private int as(int p, int k) {
        if (!isPerson(p) || k < 0 || k > 6) {
            return NONE;
        }
        for (int kind = now.people.get(p).kind; kind >= 0; kind = ABOVE[kind]) {
            if (kind == k) {
                return now.people.get(p).v;
            }
        }
        return -6;
    }

    private int undo() {
        if (image == null) {
            return STATE;
        }
        now = image.copy();
        return now.people.size();
    }

    private int count(int what) {
        List<Integer> all = Arrays.asList(now.people.size(), now.things.size(), now.lands.size(), now.seen.size(),
            now.tape.length(), trace.size());
        return what < 0 || what > 5 ? NONE : all.get(what);
    }

    // ---- ACTS, as classes

    private int act(int p, int act, int x) {
        trace = new ArrayList<>();
        if (!isPerson(p) || act < 0 || act > 2) {
            return 0;
        }
        Holder one = new Holder[] {new Holder(), new Full(), new Handing(), new Lending(), new Dearest(), new Giving(),
            new Told()}[now.people.get(p).kind];
        one.i = p;
        one.v = now.people.get(p).v;
        one.ran = trace;
        return act == 0 ? one.lifts(x) : act == 1 ? one.drops(x) : one.tells(x);
    }

    private static class Holder {
        int i, v;
        List<Integer> ran;

        int lifts(int x) {
            ran.add(1);
            return x + i;
        }

        int drops(int x) {
            ran.add(2);
            return lifts(x) - v;
        }

        int tells(int x) {
            ran.add(3);
            return drops(x) * 2;
        }
    }

    private static class Full extends Holder {
        @Override
        int lifts(int x) {
            ran.add(11);
            return super.lifts(x * 3);
        }
    }

    private static class Handing extends Holder {
        @Override
        int drops(int x) {
            ran.add(21);
            return -super.drops(x);
        }
    }

    private static class Lending extends Holder {
        @Override
        int tells(int x) {
            ran.add(31);
            return super.tells(x) ^ 7;
        }
    }

    private static class Dearest extends Full {
        @Override
        int tells(int x) {
            ran.add(41);
            return super.tells(x - 1) + lifts(2);
        }
    }

    private static class Giving extends Handing {
        @Override
        int lifts(int x) {
            ran.add(51);
            return super.lifts(x) ^ i;
        }
    }

    private static class Told extends Lending {
        @Override
        int drops(int x) {
            ran.add(61);
            return super.drops(x) + v;
        }
    }
}
