/**
 * Owns only what one can lift: people who lift so much, things that weigh, liked by each so much.
 * The words in capitals are those of the document ("Terms").
 */
public final class OwnsLift {
    public static final int NONE = -1, BAD = -2, STATE = -3, FULL = -4;
    public static final long NO = Long.MIN_VALUE;

    private static final int NOBODY = -5;
    private static final int NOT_ANY = -5;
    private static final int OTHER_KIND = -6;
    private static final int FAULT_FROM = -10;
    private static final int NO_SUCH = -1001;

    private static final int MAX_PEOPLE = 4;
    private static final int MAX_THINGS = 7;
    private static final int MAX_ROW = 7;
    private static final int MAX_SEEN = 12;
    private static final int MAX_SIGNS = 100;
    private static final int MAX_CLAUSES = 10;
    private static final int MAX_OPEN = 5;
    private static final int MAX_LANDS = 5;
    private static final int MAX_SWAPS = 20;
    private static final int MAX_TRACE = 20;
    private static final int MAX_SIGN = 127;
    private static final int MAX_V = 9;
    private static final int MAX_STRENGTH = 99;
    private static final int MAX_AGE = 99;
    private static final int MAX_WEIGHT = 50;
    private static final int MAX_HAD = 400;
    private static final int MAX_YEAR = 99;
    private static final int ILL_OF = 10;
    private static final int OUTSIDE = 99;

    private static final int K_HOLDER = 0;
    private static final int K_FULL = 1;
    private static final int K_HANDING = 2;
    private static final int K_LENDING = 3;
    private static final int K_DEAREST = 4;
    private static final int K_GIVING = 5;
    private static final int K_TOLD = 6;
    /** The KIND above each KIND. */
    private static final int[] ABOVE = {-1, 0, 0, 0, 1, 2, 3};
    private static final int KINDS = 7;

    private static final int A_LIFTS = 0;
    private static final int A_DROPS = 1;
    private static final int A_TELLS = 2;
    private static final int ACTS = 3;
    /** The number of the body by KIND and act, 0 where the KIND has none of its own. */
    private static final int[] BODIES = {
        1, 2, 3,
        11, 0, 0,
        0, 21, 0,
        0, 0, 31,
        0, 0, 41,
        51, 0, 0,
        0, 61, 0};
    /** The longest run of bodies that call one another is 5; this only keeps the recursion's end in sight. */
    private static final int MAX_BODIES_OPEN = 20;

    private static final int W_LIKE = 0;
    private static final int W_LIFT = 1;
    private static final int W_WEAR = 2;
    private static final int W_ILL = 3;
    private static final int WORDS = 4;

    /** The letters and the comparisons of a TEST, in the order in which facts and codes number them. */
    private static final String LETTERS = "pkatwy";
    private static final String SIGNS = "<=>";
    private static final int F_P = 0;
    private static final int F_K = 1;
    private static final int F_A = 2;
    private static final int F_T = 3;
    private static final int F_W = 4;
    private static final int F_Y = 5;
    private static final int FACTS = 6;

    private static final int OP_NOT = -1;
    private static final int OP_AND = -2;
    private static final int OP_OR = -3;
    /** Below all that can be reached, so that no way that holds it is taken. */
    private static final int NEVER = -1000000;

    private final Realm now = new Realm();
    private final Realm kept = new Realm();
    private boolean hasImage;
    private final Reader reader = new Reader();
    private final Standing standing = new Standing();
    private final Shares shares = new Shares();
    private final Fraction fraction = new Fraction();
    private final Acts acts = new Acts();

    public OwnsLift() {
    }

    // ---- lands, people, things

    public int feed(int sign) {
        if (sign < 0 || sign > MAX_SIGN) {
            return BAD;
        }
        if (now.signs >= MAX_SIGNS) {
            return FULL;
        }
        now.tape[now.signs] = sign;
        now.signs++;
        return now.signs;
    }

    public int land() {
        if (now.lands >= MAX_LANDS) {
            return FULL;
        }
        boolean whole = reader.read(now.tape, now.signs);
        now.signs = 0;
        if (!whole) {
            return FAULT_FROM - reader.place;
        }
        now.land.copyFrom(reader.draft);
        now.lands++;
        return now.lands - 1;
    }

    public int person(int kind, int v, int strength, int age) {
        if (!isKind(kind)) {
            return NONE;
        }
        if (!within(v, MAX_V) || !within(strength, MAX_STRENGTH) || !within(age, MAX_AGE)) {
            return BAD;
        }
        if (now.people.size >= MAX_PEOPLE) {
            return FULL;
        }
        return now.people.add(kind, v, strength, age);
    }

    public int of(int person, int what) {
        if (!now.people.has(person)) {
            return NONE;
        }
        standing.take(now);
        switch (what) {
            case 0: return now.people.kind[person];
            case 1: return now.people.v[person];
            case 2: return now.people.strength[person];
            case 3: return now.people.age[person];
            case 4: return standing.lifts[person];
            case 5: return standing.load(person);
            case 6: return standing.over(person) ? 1 : 0;
            case 7: return standing.ill[person];
            case 8: return standing.bits(person);
            case 9: return now.people.rowSize[person];
            default: return NONE;
        }
    }

    public int strength(int person, int n) {
        if (!now.people.has(person)) {
            return NONE;
        }
        if (!within(n, MAX_STRENGTH)) {
            return BAD;
        }
        int was = now.people.strength[person];
        now.people.strength[person] = n;
        return was;
    }

    public int row(int person, int thing) {
        if (!now.people.has(person) || thing != -1 && !now.things.has(thing)) {
            return NONE;
        }
        if (now.people.kind[person] != K_TOLD) {
            return STATE;
        }
        if (thing == -1) {
            now.people.rowSize[person] = 0;
            return 0;
        }
        if (now.people.rowSize[person] >= MAX_ROW) {
            return FULL;
        }
        return now.people.addToRow(person, thing);
    }

    public int thing(int weight) {
        if (!within(weight, MAX_WEIGHT)) {
            return BAD;
        }
        if (now.things.size >= MAX_THINGS) {
            return FULL;
        }
        return now.things.add(weight);
    }

    public int at(int thing, int what) {
        if (!now.things.has(thing) || !within(what, 1)) {
            return NO_SUCH;
        }
        return what == 0 ? now.things.weight[thing] : now.things.owner[thing];
    }

    public int give(int thing, int person) {
        if (!now.things.has(thing) || person != -1 && !now.people.has(person)) {
            return NO_SUCH;
        }
        int was = now.things.owner[thing];
        now.things.owner[thing] = person == -1 ? NOBODY : person;
        return was;
    }

    public int like(int person, int thing) {
        if (!now.people.has(person) || !now.things.has(thing)) {
            return NONE;
        }
        return now.likeOf(person, thing);
    }

    public int when() {
        return now.year;
    }

    // ---- benches, years

    public int bench(int person) {
        if (!now.people.has(person)) {
            return NONE;
        }
        standing.take(now);
        int dropped = standing.lighten(now.people, person);
        System.arraycopy(standing.owner, 0, now.things.owner, 0, MAX_THINGS);
        return dropped;
    }

    public int year() {
        if (now.year >= MAX_YEAR) {
            return STATE;
        }
        now.pass();
        return now.year;
    }

    // ---- who should own what

    public int best(int thing) {
        if (thing != -1 && !now.things.has(thing)) {
            return NO_SUCH;
        }
        standing.take(now);
        shares.byLike(standing);
        shares.solve();
        return thing == -1 ? shares.sum : shares.owner[thing];
    }

    public int most() {
        standing.take(now);
        shares.byNumber(standing);
        shares.solve();
        return shares.sum;
    }

    public int train(int person) {
        if (!now.people.has(person)) {
            return NONE;
        }
        standing.take(now);
        shares.byLike(standing);
        shares.solve();
        int untrained = shares.sum;
        standing.lifts[person]++;
        shares.byLike(standing);
        shares.solve();
        return shares.sum - untrained;
    }

    public int moved() {
        standing.take(now);
        shares.byStaying(standing);
        shares.solve();
        return shares.found ? -shares.sum : NOT_ANY;
    }

    public int gives(int person, int what) {
        if (!now.people.has(person) || !within(what, 1)) {
            return NONE;
        }
        standing.take(now);
        int set = Sets.leastGiven(standing, person);
        return what == 0 ? set : standing.likeOfSet(person, set);
    }

    public long parts(int person, int part) {
        if (!now.people.has(person) || !within(part, 1)) {
            return NO;
        }
        standing.take(now);
        standing.fillByParts(person, fraction);
        return part == 0 ? fraction.above : fraction.below;
    }

    // ---- exchanges, partings

    public int swap(int what) {
        if (!within(what, 1)) {
            return NONE;
        }
        standing.take(now);
        return what == 0 ? Swaps.number(standing) : Swaps.first(standing);
    }

    public int rest() {
        standing.take(now);
        return Swaps.untilNone(standing);
    }

    public int fair(int one, int other, int what) {
        if (!now.people.has(one) || !now.people.has(other) || !within(what, 1)) {
            return NONE;
        }
        if (one == other) {
            return BAD;
        }
        standing.take(now);
        return what == 0 ? Sets.fairNumber(standing, one, other) : Sets.fairLeast(standing, one, other);
    }

    public int had(int weight, int what) {
        if (!within(what, 1)) {
            return NONE;
        }
        if (!within(weight, MAX_HAD)) {
            return BAD;
        }
        standing.take(now);
        return what == 0 ? Sets.weighingNumber(standing, weight) : Sets.weighingLeast(standing, weight);
    }

    public long odds(int part) {
        if (!within(part, 1)) {
            return NO;
        }
        standing.take(now);
        standing.weighOdds(fraction);
        return part == 0 ? fraction.above : fraction.below;
    }

    // ---- seen

    public int see(int person, boolean could) {
        if (person == -1) {
            now.seen = 0;
            return 0;
        }
        if (!now.people.has(person)) {
            return NONE;
        }
        if (now.seen >= MAX_SEEN) {
            return FULL;
        }
        now.seenWho[now.seen] = person;
        now.seenCould[now.seen] = could ? 1 : 0;
        now.seen++;
        return now.seen;
    }

    public int looked() {
        standing.take(now);
        for (int i = 0; i < now.seen; i++) {
            int person = now.seenWho[i];
            int could = standing.over(person) ? 0 : 1;
            if (could != now.seenCould[i]) {
                return i;
            }
            standing.lighten(now.people, person);
        }
        return NOT_ANY;
    }

    // ---- acts, the image

    public int act(int person, int act, int x) {
        acts.forget();
        if (!now.people.has(person) || !within(act, ACTS - 1)) {
            return 0;
        }
        acts.take(now.people, person);
        return acts.run(now.people.kind[person], act, x, 0);
    }

    public int trace(int i) {
        if (i < 0 || i >= acts.ran || i >= MAX_TRACE) {
            return NONE;
        }
        return acts.bodies[i];
    }

    public int as(int person, int k) {
        if (!now.people.has(person) || !isKind(k)) {
            return NONE;
        }
        int kind = now.people.kind[person];
        for (int up = 0; up < KINDS && kind > k; up++) {
            kind = ABOVE[kind];
        }
        return kind == k ? now.people.v[person] : OTHER_KIND;
    }

    public int image() {
        kept.copyFrom(now);
        hasImage = true;
        return now.people.size;
    }

    public int undo() {
        if (!hasImage) {
            return STATE;
        }
        now.copyFrom(kept);
        return now.people.size;
    }

    public int count(int what) {
        switch (what) {
            case 0: return now.people.size;
            case 1: return now.things.size;
            case 2: return now.lands;
            case 3: return now.seen;
            case 4: return now.signs;
            case 5: return acts.ran;
            default: return NONE;
        }
    }

    private static boolean within(int n, int last) {
        return n >= 0 && n <= last;
    }

    private static boolean isKind(int kind) {
        return kind >= 0 && kind < KINDS;
    }

    /** The PEOPLE, and the ROWS of those who are TOLD. */
    private static final class People {
        int size;
        final int[] kind = new int[MAX_PEOPLE];
        final int[] v = new int[MAX_PEOPLE];
        final int[] strength = new int[MAX_PEOPLE];
        final int[] age = new int[MAX_PEOPLE];
        final int[] rowSize = new int[MAX_PEOPLE];
        final int[][] rows = new int[MAX_PEOPLE][MAX_ROW];

        boolean has(int p) {
            return p >= 0 && p < size;
        }

        int add(int itsKind, int itsV, int itsStrength, int itsAge) {
            int p = size;
            kind[p] = itsKind;
            v[p] = itsV;
            strength[p] = itsStrength;
            age[p] = itsAge;
            rowSize[p] = 0;
            size++;
            return p;
        }

        int addToRow(int p, int t) {
            rows[p][rowSize[p]] = t;
            rowSize[p]++;
            return rowSize[p];
        }

        void copyFrom(People other) {
            size = other.size;
            System.arraycopy(other.kind, 0, kind, 0, MAX_PEOPLE);
            System.arraycopy(other.v, 0, v, 0, MAX_PEOPLE);
            System.arraycopy(other.strength, 0, strength, 0, MAX_PEOPLE);
            System.arraycopy(other.age, 0, age, 0, MAX_PEOPLE);
            System.arraycopy(other.rowSize, 0, rowSize, 0, MAX_PEOPLE);
            for (int p = 0; p < MAX_PEOPLE; p++) {
                System.arraycopy(other.rows[p], 0, rows[p], 0, MAX_ROW);
            }
        }
    }

    /** The THINGS and whose they are. */
    private static final class Things {
        int size;
        final int[] weight = new int[MAX_THINGS];
        final int[] owner = new int[MAX_THINGS];

        boolean has(int t) {
            return t >= 0 && t < size;
        }

        int add(int itsWeight) {
            int t = size;
            weight[t] = itsWeight;
            owner[t] = NOBODY;
            size++;
            return t;
        }

        void copyFrom(Things other) {
            size = other.size;
            System.arraycopy(other.weight, 0, weight, 0, MAX_THINGS);
            System.arraycopy(other.owner, 0, owner, 0, MAX_THINGS);
        }
    }

    /** The CLAUSES of a LAND; each E is kept as a row of codes in which what is joined stands ahead of what joins it. */
    private static final class Land {
        int clauses;
        final int[] word = new int[MAX_CLAUSES];
        final int[] n = new int[MAX_CLAUSES];
        final int[] end = new int[MAX_CLAUSES];
        final int[] code = new int[MAX_SIGNS];
        int codes;

        void clear() {
            clauses = 0;
            codes = 0;
        }

        void emit(int op) {
            if (codes < MAX_SIGNS) {
                code[codes] = op;
                codes++;
            }
        }

        void close(int itsWord, int itsN) {
            if (clauses < MAX_CLAUSES) {
                word[clauses] = itsWord;
                n[clauses] = itsN;
                end[clauses] = codes;
                clauses++;
            }
        }

        int together(int asked, int[] facts) {
            int sum = 0;
            int from = 0;
            for (int c = 0; c < clauses; c++) {
                if (word[c] == asked && holds(from, end[c], facts)) {
                    sum += n[c];
                }
                from = end[c];
            }
            return sum;
        }

        /** The answers that still wait are bits, the latest the lowest: 13 wait at most, 2 for each ( and 1. */
        private boolean holds(int from, int to, int[] facts) {
            int waiting = 0;
            for (int i = from; i < to; i++) {
                int op = code[i];
                if (op == OP_NOT) {
                    waiting ^= 1;
                } else if (op == OP_AND) {
                    waiting = (waiting >> 1) & (waiting | ~1);
                } else if (op == OP_OR) {
                    waiting = (waiting >> 1) | (waiting & 1);
                } else {
                    waiting = (waiting << 1) | (passes(op, facts) ? 1 : 0);
                }
            }
            return (waiting & 1) == 1;
        }

        private static boolean passes(int test, int[] facts) {
            int fact = facts[test / 1000];
            int number = test % 100;
            switch (test / 100 % 10) {
                case 0: return fact < number;
                case 1: return fact == number;
                default: return fact > number;
            }
        }

        void copyFrom(Land other) {
            clauses = other.clauses;
            codes = other.codes;
            System.arraycopy(other.word, 0, word, 0, MAX_CLAUSES);
            System.arraycopy(other.n, 0, n, 0, MAX_CLAUSES);
            System.arraycopy(other.end, 0, end, 0, MAX_CLAUSES);
            System.arraycopy(other.code, 0, code, 0, MAX_SIGNS);
        }
    }

    /** Reads a LAND; where that fails, place is the FAULT. */
    private static final class Reader {
        final Land draft = new Land();
        int place;
        private final int[] text = new int[MAX_SIGNS];
        private int size;

        boolean read(int[] tape, int signs) {
            System.arraycopy(tape, 0, text, 0, MAX_SIGNS);
            size = signs;
            place = 0;
            draft.clear();
            for (int c = 0; c < MAX_CLAUSES; c++) {
                if (!clause()) {
                    return false;
                }
                // Behind the last CLAUSE that there can be, a ; is a FAULT as any other sign is.
                if (place == size || c == MAX_CLAUSES - 1 || !eat(';')) {
                    break;
                }
            }
            return place == size;
        }

        private boolean clause() {
            int word = word();
            if (word < 0 || !eat(' ')) {
                return false;
            }
            int n = number();
            if (n < 0 || !eat(' ') || !either(0)) {
                return false;
            }
            draft.close(word, n);
            return true;
        }

        /** The word that stands here, or -1; then place is where the last of the words fails. */
        private int word() {
            int furthest = 0;
            for (int w = 0; w < WORDS; w++) {
                String spelling = spelling(w);
                int same = alike(spelling);
                if (same == spelling.length()) {
                    place += same;
                    return w;
                }
                furthest = Math.max(furthest, same);
            }
            place += furthest;
            return -1;
        }

        private static String spelling(int word) {
            switch (word) {
                case W_LIKE: return "like";
                case W_LIFT: return "lift";
                case W_WEAR: return "wear";
                default: return "ill";
            }
        }

        private int alike(String spelling) {
            int same = 0;
            while (same < spelling.length() && place + same < size
                    && text[place + same] == spelling.charAt(same)) {
                same++;
            }
            return same;
        }

        /** E, and the Ts in it; open: how many of ! and ( are. */
        private boolean either(int open) {
            boolean joinsF = false;
            boolean joinsT = false;
            for (int n = 0; n < MAX_SIGNS; n++) {
                if (!factor(open)) {
                    return false;
                }
                if (joinsF) {
                    draft.emit(OP_AND);
                }
                joinsF = eat('&');
                if (joinsF) {
                    continue;
                }
                if (joinsT) {
                    draft.emit(OP_OR);
                }
                joinsT = eat('|');
                if (!joinsT) {
                    return true;
                }
            }
            return false;
        }

        private boolean factor(int open) {
            boolean mayOpen = open < MAX_OPEN;
            if (mayOpen && eat('!')) {
                if (!factor(open + 1)) {
                    return false;
                }
                draft.emit(OP_NOT);
                return true;
            }
            if (mayOpen && eat('(')) {
                return either(open + 1) && eat(')');
            }
            return test();
        }

        private boolean test() {
            int letter = oneOf(LETTERS);
            if (letter < 0) {
                return false;
            }
            int sign = oneOf(SIGNS);
            if (sign < 0) {
                return false;
            }
            int n = number();
            if (n < 0) {
                return false;
            }
            draft.emit(letter * 1000 + sign * 100 + n);
            return true;
        }

        /** Behind a 0 no digit is taken, so that whatever must come next fails at it. */
        private int number() {
            if (!digitHere()) {
                return -1;
            }
            int n = text[place] - '0';
            place++;
            if (n != 0 && digitHere()) {
                n = n * 10 + text[place] - '0';
                place++;
            }
            return n;
        }

        private boolean digitHere() {
            return place < size && text[place] >= '0' && text[place] <= '9';
        }

        private boolean eat(char sign) {
            if (place < size && text[place] == sign) {
                place++;
                return true;
            }
            return false;
        }

        private int oneOf(String signs) {
            if (place >= size) {
                return -1;
            }
            int which = signs.indexOf((char) text[place]);
            if (which >= 0) {
                place++;
            }
            return which;
        }
    }

    /** All that there is, but THE IMAGE and THE TRACE. */
    private static final class Realm {
        final int[] tape = new int[MAX_SIGNS];
        int signs;
        /** The newest LAND; the older ones never hold again, so that their number is all that is kept of them. */
        final Land land = new Land();
        int lands;
        final People people = new People();
        final Things things = new Things();
        int year;
        final int[] seenWho = new int[MAX_SEEN];
        final int[] seenCould = new int[MAX_SEEN];
        int seen;
        private final int[] facts = new int[FACTS];

        int likeOf(int p, int t) {
            tellPerson(p);
            tellThing(t);
            return 1 + land.together(W_LIKE, facts);
        }

        int liftsOf(int p) {
            tellPerson(p);
            tellNoThing();
            int lent = people.kind[p] == K_LENDING || people.kind[p] == K_TOLD ? people.v[p] : 0;
            return people.strength[p] + land.together(W_LIFT, facts) + lent;
        }

        int illOf(int p) {
            tellPerson(p);
            tellNoThing();
            return Math.min(ILL_OF, land.together(W_ILL, facts));
        }

        private int wearOf(int t) {
            tellNobody();
            tellThing(t);
            return land.together(W_WEAR, facts);
        }

        void pass() {
            year++;
            for (int p = 0; p < people.size; p++) {
                people.age[p] = Math.min(MAX_AGE, people.age[p] + 1);
            }
            for (int t = 0; t < things.size; t++) {
                things.weight[t] = Math.max(0, things.weight[t] - wearOf(t));
            }
        }

        private void tellPerson(int p) {
            facts[F_P] = p;
            facts[F_K] = people.kind[p];
            facts[F_A] = people.age[p] / 10;
            facts[F_Y] = year % 10;
        }

        private void tellNobody() {
            facts[F_P] = OUTSIDE;
            facts[F_K] = OUTSIDE;
            facts[F_A] = OUTSIDE;
            facts[F_Y] = year % 10;
        }

        private void tellThing(int t) {
            facts[F_T] = t;
            facts[F_W] = things.weight[t] / 10;
        }

        private void tellNoThing() {
            facts[F_T] = OUTSIDE;
            facts[F_W] = OUTSIDE;
        }

        void copyFrom(Realm other) {
            System.arraycopy(other.tape, 0, tape, 0, MAX_SIGNS);
            signs = other.signs;
            land.copyFrom(other.land);
            lands = other.lands;
            people.copyFrom(other.people);
            things.copyFrom(other.things);
            year = other.year;
            System.arraycopy(other.seenWho, 0, seenWho, 0, MAX_SEEN);
            System.arraycopy(other.seenCould, 0, seenCould, 0, MAX_SEEN);
            seen = other.seen;
        }
    }

    /** How all stands, worked out once a call: a copy, so that what is asked changes nothing. */
    private static final class Standing {
        int people;
        int things;
        final int[][] like = new int[MAX_PEOPLE][MAX_THINGS];
        final int[] lifts = new int[MAX_PEOPLE];
        final int[] ill = new int[MAX_PEOPLE];
        final int[] weight = new int[MAX_THINGS];
        final int[] owner = new int[MAX_THINGS];

        void take(Realm realm) {
            people = realm.people.size;
            things = realm.things.size;
            System.arraycopy(realm.things.weight, 0, weight, 0, MAX_THINGS);
            System.arraycopy(realm.things.owner, 0, owner, 0, MAX_THINGS);
            for (int p = 0; p < people; p++) {
                lifts[p] = realm.liftsOf(p);
                ill[p] = realm.illOf(p);
                for (int t = 0; t < things; t++) {
                    like[p][t] = realm.likeOf(p, t);
                }
            }
        }

        int bits(int p) {
            int set = 0;
            for (int t = 0; t < things; t++) {
                if (owner[t] == p) {
                    set |= 1 << t;
                }
            }
            return set;
        }

        int load(int p) {
            return weightOfSet(bits(p));
        }

        boolean over(int p) {
            return load(p) > lifts[p];
        }

        int weightOfSet(int set) {
            int sum = 0;
            for (int t = 0; t < things; t++) {
                if ((set >> t & 1) == 1) {
                    sum += weight[t];
                }
            }
            return sum;
        }

        int likeOfSet(int p, int set) {
            int sum = 0;
            for (int t = 0; t < things; t++) {
                if ((set >> t & 1) == 1) {
                    sum += like[p][t];
                }
            }
            return sum;
        }

        /** A BENCH: how many THINGS are dropped. */
        int lighten(People all, int p) {
            int dropped = 0;
            while (dropped < things && over(p)) {
                int t = choose(all, p);
                if (t < 0) {
                    break;
                }
                owner[t] = heir(all.kind[p], p, t);
                dropped++;
            }
            return dropped;
        }

        private int choose(People all, int p) {
            int told = all.kind[p] == K_TOLD ? toldFirst(all, p) : -1;
            if (told >= 0) {
                return told;
            }
            int first = -1;
            for (int t = 0; t < things; t++) {
                if (owner[t] == p && (first < 0 || goesAhead(all.kind[p], p, t, first))) {
                    first = t;
                }
            }
            return first;
        }

        private int toldFirst(People all, int p) {
            for (int i = 0; i < all.rowSize[p]; i++) {
                int t = all.rows[p][i];
                if (owner[t] == p && weight[t] > 0) {
                    return t;
                }
            }
            return -1;
        }

        private boolean goesAhead(int kind, int p, int t, int u) {
            switch (kind) {
                case K_FULL: return weight[t] > weight[u];
                case K_DEAREST: return dearer(p, u, t);
                case K_GIVING: return like[p][t] > like[p][u];
                default: return like[p][t] < like[p][u];
            }
        }

        /** Whether t has more LIKE for its WEIGHT than u; what weighs nothing has the most. */
        private boolean dearer(int p, int t, int u) {
            if (weight[t] == 0 || weight[u] == 0) {
                return weight[t] < weight[u];
            }
            return like[p][t] * weight[u] > like[p][u] * weight[t];
        }

        private int heir(int kind, int p, int t) {
            if (kind != K_HANDING && kind != K_GIVING) {
                return NOBODY;
            }
            for (int step = 1; step < people; step++) {
                int next = p + step < people ? p + step : p + step - people;
                if (load(next) + weight[t] <= lifts[next]) {
                    return next;
                }
            }
            return NOBODY;
        }

        /** PARTS: what has the most LIKE for its WEIGHT is taken first, and of one THING at most a part. */
        void fillByParts(int p, Fraction fraction) {
            int left = lifts[p];
            int set = bits(p);
            int sum = 0;
            for (int n = 0; n < things && set != 0; n++) {
                int t = dearestOf(p, set);
                if (t < 0) {
                    break;
                }
                if (weight[t] > left) {
                    fraction.put((long) sum * weight[t] + (long) like[p][t] * left, weight[t]);
                    return;
                }
                left -= weight[t];
                sum += like[p][t];
                set &= ~(1 << t);
            }
            fraction.put(sum, 1);
        }

        private int dearestOf(int p, int set) {
            int first = -1;
            for (int t = 0; t < things; t++) {
                if ((set >> t & 1) == 1 && (first < 0 || dearer(p, t, first))) {
                    first = t;
                }
            }
            return first;
        }

        void weighOdds(Fraction fraction) {
            long above = 1;
            long below = 1;
            for (int p = 0; p < people; p++) {
                int load = load(p);
                int well = load <= lifts[p] ? ILL_OF - ill[p] : 0;
                int sick = load <= lifts[p] / 2 ? ill[p] : 0;
                above *= well + sick;
                below *= ILL_OF;
            }
            fraction.put(above, below);
        }
    }

    /** Of all ways to share THINGS out, nobody being OVER, that which is worth most, the first of several. */
    private static final class Shares {
        boolean found;
        int sum;
        final int[] owner = new int[MAX_THINGS];
        private int people;
        private int things;
        /** By THINGS and who has them; behind the last one of the PEOPLE stands nobody. */
        private final int[][] worth = new int[MAX_THINGS][MAX_PEOPLE + 1];
        private final int[] weight = new int[MAX_THINGS];
        private final int[] room = new int[MAX_PEOPLE + 1];
        private final int[] trial = new int[MAX_THINGS];
        /** What the THINGS from each one on are worth at most. */
        private final int[] hope = new int[MAX_THINGS + 1];

        void byLike(Standing standing) {
            begin(standing);
            for (int t = 0; t < things; t++) {
                for (int p = 0; p < people; p++) {
                    worth[t][p] = standing.like[p][t];
                }
                worth[t][people] = 0;
            }
        }

        void byNumber(Standing standing) {
            begin(standing);
            for (int t = 0; t < things; t++) {
                for (int p = 0; p < people; p++) {
                    worth[t][p] = 1;
                }
                worth[t][people] = 0;
            }
        }

        void byStaying(Standing standing) {
            begin(standing);
            for (int t = 0; t < things; t++) {
                boolean owned = standing.owner[t] != NOBODY;
                for (int p = 0; p < people; p++) {
                    worth[t][p] = !owned ? NEVER : standing.owner[t] == p ? 0 : -1;
                }
                worth[t][people] = owned ? NEVER : 0;
            }
        }

        private void begin(Standing standing) {
            people = standing.people;
            things = standing.things;
            for (int t = 0; t < things; t++) {
                weight[t] = standing.weight[t];
            }
            for (int p = 0; p < people; p++) {
                room[p] = standing.lifts[p];
            }
            room[people] = MAX_THINGS * MAX_WEIGHT;
        }

        void solve() {
            found = false;
            sum = 0;
            hope[things] = 0;
            for (int t = things - 1; t >= 0; t--) {
                int top = worth[t][people];
                for (int p = 0; p < people; p++) {
                    top = weight[t] <= room[p] ? Math.max(top, worth[t][p]) : top;
                }
                hope[t] = hope[t + 1] + top;
            }
            deal(0, 0);
        }

        /** Tries the ways in their order; a later one is kept only if it is worth more, so that the first stays. */
        private void deal(int t, int reached) {
            if (found && reached + hope[t] <= sum) {
                return;
            }
            if (t >= things) {
                found = true;
                sum = reached;
                System.arraycopy(trial, 0, owner, 0, MAX_THINGS);
                return;
            }
            for (int p = 0; p <= people; p++) {
                if (worth[t][p] != NEVER && weight[t] <= room[p]) {
                    trial[t] = p < people ? p : NOBODY;
                    room[p] -= weight[t];
                    deal(t + 1, reached + worth[t][p]);
                    room[p] += weight[t];
                }
            }
        }
    }

    /** What is asked of sets of THINGS, as bits. */
    private static final class Sets {
        /** GIVES: the set. To give all always serves, and of sets with as much LIKE the lesser one comes first. */
        static int leastGiven(Standing standing, int p) {
            int own = standing.bits(p);
            int least = own;
            int leastLike = standing.likeOfSet(p, own);
            for (int set = 0; set < own; set++) {
                if ((set & ~own) == 0 && standing.weightOfSet(own & ~set) <= standing.lifts[p]
                        && standing.likeOfSet(p, set) < leastLike) {
                    least = set;
                    leastLike = standing.likeOfSet(p, set);
                }
            }
            return least;
        }

        static int fairNumber(Standing standing, int one, int other) {
            int both = standing.bits(one) | standing.bits(other);
            int number = 0;
            for (int set = 0; set <= both; set++) {
                if ((set & ~both) == 0 && partsFairly(standing, one, other, set)) {
                    number++;
                }
            }
            return number;
        }

        static int fairLeast(Standing standing, int one, int other) {
            int both = standing.bits(one) | standing.bits(other);
            for (int set = 0; set <= both; set++) {
                if ((set & ~both) == 0 && partsFairly(standing, one, other, set)) {
                    return set;
                }
            }
            return NOT_ANY;
        }

        private static boolean partsFairly(Standing standing, int one, int other, int set) {
            int rest = (standing.bits(one) | standing.bits(other)) & ~set;
            return standing.weightOfSet(set) <= standing.lifts[one]
                    && standing.weightOfSet(rest) <= standing.lifts[other]
                    && standing.likeOfSet(one, rest) <= standing.likeOfSet(one, set)
                    && standing.likeOfSet(other, set) <= standing.likeOfSet(other, rest);
        }

        static int weighingNumber(Standing standing, int weight) {
            int number = 0;
            for (int set = 0; set < 1 << standing.things; set++) {
                if (standing.weightOfSet(set) == weight) {
                    number++;
                }
            }
            return number;
        }

        static int weighingLeast(Standing standing, int weight) {
            for (int set = 0; set < 1 << standing.things; set++) {
                if (standing.weightOfSet(set) == weight) {
                    return set;
                }
            }
            return NOT_ANY;
        }
    }

    /** SWAPS of two THINGS whose OWNERS both gain by it. */
    private static final class Swaps {
        static int number(Standing standing) {
            int number = 0;
            for (int t = 0; t < standing.things; t++) {
                for (int u = t + 1; u < standing.things; u++) {
                    if (serves(standing, t, u)) {
                        number++;
                    }
                }
            }
            return number;
        }

        static int first(Standing standing) {
            for (int t = 0; t < standing.things; t++) {
                for (int u = t + 1; u < standing.things; u++) {
                    if (serves(standing, t, u)) {
                        return 10 * t + u;
                    }
                }
            }
            return NOT_ANY;
        }

        /** REST. */
        static int untilNone(Standing standing) {
            for (int done = 0; done <= MAX_SWAPS; done++) {
                int pair = first(standing);
                if (pair == NOT_ANY) {
                    return done;
                }
                int t = pair / 10;
                int u = pair % 10;
                int was = standing.owner[t];
                standing.owner[t] = standing.owner[u];
                standing.owner[u] = was;
            }
            return NOT_ANY;
        }

        private static boolean serves(Standing standing, int t, int u) {
            int a = standing.owner[t];
            int b = standing.owner[u];
            return a != NOBODY && b != NOBODY && a != b
                    && gains(standing, a, t, u) && gains(standing, b, u, t);
        }

        private static boolean gains(Standing standing, int p, int loses, int gets) {
            return standing.like[p][gets] > standing.like[p][loses]
                    && standing.load(p) - standing.weight[loses] + standing.weight[gets] <= standing.lifts[p];
        }
    }

    /** A fraction in lowest terms. */
    private static final class Fraction {
        long above;
        long below = 1;

        void put(long top, long bottom) {
            long divisor = common(top, bottom);
            if (divisor > 0) {
                above = top / divisor;
                below = bottom / divisor;
            }
        }

        private static long common(long a, long b) {
            long larger = a;
            long smaller = b;
            for (int n = 0; n < 100 && smaller != 0; n++) {
                long over = larger % smaller;
                larger = smaller;
                smaller = over;
            }
            return larger;
        }
    }

    /** ACTS of one of the PEOPLE, and THE TRACE. */
    private static final class Acts {
        final int[] bodies = new int[MAX_TRACE];
        int ran;
        private int number;
        private int v;
        private int kind;

        void forget() {
            ran = 0;
        }

        void take(People people, int p) {
            number = p;
            v = people.v[p];
            kind = people.kind[p];
        }

        /** The body of the KIND from, or of the next one above it; super is the KIND above the body's. */
        private int run(int from, int act, int x, int open) {
            if (open >= MAX_BODIES_OPEN) {
                return 0;
            }
            int body = bodyOf(from, act);
            note(body);
            int o = open + 1;
            switch (body) {
                case 1: return x + number;
                case 2: return run(kind, A_LIFTS, x, o) - v;
                case 3: return run(kind, A_DROPS, x, o) * 2;
                case 11: return run(ABOVE[K_FULL], A_LIFTS, x * 3, o);
                case 21: return -run(ABOVE[K_HANDING], A_DROPS, x, o);
                case 31: return run(ABOVE[K_LENDING], A_TELLS, x, o) ^ 7;
                case 41: return run(ABOVE[K_DEAREST], A_TELLS, x - 1, o) + run(kind, A_LIFTS, 2, o);
                case 51: return run(ABOVE[K_GIVING], A_LIFTS, x, o) ^ number;
                case 61: return run(ABOVE[K_TOLD], A_DROPS, x, o) + v;
                default: return 0;
            }
        }

        private static int bodyOf(int from, int act) {
            int k = from;
            for (int up = 0; up < KINDS && k > K_HOLDER && BODIES[k * ACTS + act] == 0; up++) {
                k = ABOVE[k];
            }
            return BODIES[k * ACTS + act];
        }

        private void note(int body) {
            if (ran < MAX_TRACE) {
                bodies[ran] = body;
            }
            ran++;
        }
    }
}
