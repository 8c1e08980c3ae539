/** The country of perjury: its corners, its people, the sessions sworn about it, and what can be asked of them. */
public final class SwornLane {
    public static final int UNKNOWN = -1, OUTSIDE = -2, STATE = -3, FULL = -4, NO = -5, NONE = -6;
    public static final long GONE = -1000000000000000000L;

    private static final int CORNERS = 8, THINGS = 8, PEOPLE = 6;
    private static final int NOWHERE = -1, HERE = -1;
    // A thing's place is a corner or, from HELD on, the person who carries it.
    private static final int HELD = CORNERS;
    private static final int MOST_FAINT = 9, LAST_HOUR = 99;
    private static final int FIRST_SIGN = 33, LAST_SIGN = 126, PAD_SIZE = 60;
    private static final int CLAIMS = 10, MOST_RULES = 12;
    private static final int FIVE = 5, LIAR_SETS = 32, MOST_SIGHTS = 8;
    private static final int IMAGES = 2;
    private static final int NOT_REFUSED = 0;
    private static final int MOST_HUNG = 5, TENTHS = 10;
    private static final int MOST_SEED = 9999, MOST_YEAR_ACTS = 99;

    // The kinds of acts.
    private static final int SWEAR_WAY = 0, TAKE_WAY_BACK = 1, SWEAR_THING = 2, MOVE_POLE = 3, PASS_HOUR = 4;
    private static final int GO_OVER = 5, COME_BACK = 6, GO_TO = 7, TAKE_UP = 8, SIT_DOWN = 9;

    // Why an act can not be, numbered as the document numbers the reasons.
    private static final int CAN_BE = 0, ONE_CORNER = 1, WAY_IS_SO = 2, THING_IS_SOMEWHERE = 3, NOT_THAT_SIDE = 4;
    private static final int SITS_ALREADY = 5, POLE_IS_DOWN = 6, NOT_AT_POLE = 7, NO_WAY_LEADS = 8;
    private static final int NOT_ON_HIS_CORNER = 9, NO_HOUR_LEFT = 10;

    // What a person was asked about another, or about how many lie.
    private static final int IS_HONEST = 0, IS_LIAR = 1, JUST_SO_MANY_LIE = 2;

    private final World now = new World();
    // Null until one is kept, and made then once for all.
    private final World[] images = new World[IMAGES];
    private final Pad pad = new Pad();
    private final Trial trial = new Trial();
    private final Game game = new Game();
    private final Chance chance = new Chance();

    public SwornLane() {
    }

    // ---- 1 corners, things, people

    public int way(int a, int b, boolean is) {
        if (!isCorner(a) || !isCorner(b)) {
            return UNKNOWN;
        }
        if (a == b) {
            return OUTSIDE;
        }
        now.country.setWay(a, b, is);
        return now.country.countWays();
    }

    public int thing(int thing, int corner) {
        if (!isThing(thing) || !(isCorner(corner) || corner == NOWHERE)) {
            return UNKNOWN;
        }
        int lay = now.country.cornerOfThing(thing);
        now.country.thingAt[thing] = corner;
        return lay;
    }

    public int person(int person, int corner, int faint) {
        if (!isPerson(person) || !(isCorner(corner) || corner == HERE)) {
            return UNKNOWN;
        }
        if (!isWithin(faint, 0, corner == HERE ? 0 : MOST_FAINT)) {
            return OUTSIDE;
        }
        int was = now.country.cornerOfPerson(person);
        now.country.put(person, corner, faint);
        return was;
    }

    public int pole(boolean up) {
        int was = now.country.poleAsNumber();
        now.country.poleUp = up;
        return was;
    }

    public int say(int sign) {
        if (!isWithin(sign, FIRST_SIGN, LAST_SIGN)) {
            return OUTSIDE;
        }
        return pad.add(sign) ? pad.count : FULL;
    }

    public int wipe() {
        int were = pad.count;
        pad.count = 0;
        return were;
    }

    public int fault() {
        return pad.findFault();
    }

    // ---- 2 sessions

    public int judge(int what) {
        if (!isWithin(what, 0, 2)) {
            return OUTSIDE;
        }
        int refusal = playSession();
        if (refusal == NO) {
            return NO;
        }
        if (what == 0) {
            return trial.why == CAN_BE ? NONE : trial.acts;
        }
        if (what == 1) {
            return trial.why == CAN_BE ? NONE : trial.why;
        }
        return refusal == STATE ? STATE : trial.sat;
    }

    public int behind(int person, int what) {
        if (!isPerson(person)) {
            return UNKNOWN;
        }
        if (!isWithin(what, 0, 3)) {
            return OUTSIDE;
        }
        int refusal = playSession();
        if (refusal != NOT_REFUSED) {
            return refusal;
        }
        Country country = trial.country;
        switch (what) {
            case 0:
                return country.cornerOfPerson(person);
            case 1:
                return country.faint[person];
            case 2:
                return country.sitsAsNumber(person);
            default:
                return country.carriedBy(person);
        }
    }

    public int lies(int thing, int what) {
        if (!isThing(thing)) {
            return UNKNOWN;
        }
        if (!isWithin(what, 0, 1)) {
            return OUTSIDE;
        }
        int refusal = playSession();
        if (refusal != NOT_REFUSED) {
            return refusal;
        }
        return what == 0 ? trial.country.cornerOfThing(thing) : trial.country.holderOfThing(thing);
    }

    public int there(int what) {
        if (!isWithin(what, 0, 4)) {
            return OUTSIDE;
        }
        int refusal = playSession();
        if (refusal != NOT_REFUSED) {
            return refusal;
        }
        Country country = trial.country;
        switch (what) {
            case 0:
                return country.countWays();
            case 1:
                return country.whoIsThere();
            case 2:
                return country.sitting;
            case 3:
                return country.poleAsNumber();
            default:
                return country.hour;
        }
    }

    public int first(int what) {
        if (!isWithin(what, 0, 1)) {
            return OUTSIDE;
        }
        int refusal = playSession();
        if (refusal != NOT_REFUSED) {
            return refusal;
        }
        return what == 0 ? trial.firstAct : trial.firstWho;
    }

    public int done() {
        int refusal = playSession();
        if (refusal != NOT_REFUSED) {
            return refusal;
        }
        now.country.copyFrom(trial.country);
        pad.count = 0;
        return trial.acts;
    }

    // ---- 3 joins, cuts, what follows

    public int join(int a, int b) {
        if (!isCorner(a) || !isCorner(b)) {
            return UNKNOWN;
        }
        return now.country.fewestWays(a, b);
    }

    public int cut(int a, int b, int what) {
        if (!isCorner(a) || !isCorner(b)) {
            return UNKNOWN;
        }
        if (a == b || !isWithin(what, 0, 1)) {
            return OUTSIDE;
        }
        int side = now.country.leastCut(a, b);
        return what == 0 ? now.country.waysOutOf(side) : side;
    }

    public int rule(int i, int j, int k) {
        if (!isClaim(i) || !isClaim(j) || !isClaim(k)) {
            return OUTSIDE;
        }
        return now.rules.add(i, j, k) ? now.rules.count : FULL;
    }

    public int unrule() {
        int were = now.rules.count;
        now.rules.count = 0;
        return were;
    }

    public int close(int set) {
        if (!isWithin(set, 0, (1 << CLAIMS) - 1)) {
            return OUTSIDE;
        }
        return now.rules.closure(set);
    }

    public int least(int k, int what) {
        if (!isClaim(k) || !isWithin(what, 0, 1)) {
            return OUTSIDE;
        }
        int set = now.rules.leastGrounds(k);
        if (set == NONE) {
            return NONE;
        }
        return what == 0 ? Integer.bitCount(set) : set;
    }

    // ---- 4 liars, walks, hanging together

    public int swore(int x, int what, int y, boolean yes) {
        if (!isQuestion(x, what, y)) {
            return OUTSIDE;
        }
        int yesSets = setsOfYes(x, what, y);
        return now.sights.add(yes ? yesSets : ~yesSets) ? now.sights.count : FULL;
    }

    public int forget() {
        int were = now.sights.count;
        now.sights.count = 0;
        return were;
    }

    public int liars(int i) {
        int fitting = now.sights.fitting();
        return i == -1 ? Integer.bitCount(fitting) : placeOfBit(fitting, i);
    }

    public int ask(int what) {
        if (!isWithin(what, 0, 1)) {
            return OUTSIDE;
        }
        int fitting = now.sights.fitting();
        if (fitting == 0) {
            return NONE;
        }
        int question = bestQuestion(fitting);
        return what == 0 ? question : mostLeft(fitting, question);
    }

    public int walk(int corner, int what) {
        if (!isCorner(corner)) {
            return UNKNOWN;
        }
        if (!isWithin(what, 0, 1)) {
            return OUTSIDE;
        }
        int step = game.firstStep(now.country.ways, corner);
        if (what == 0) {
            return step == NONE ? 0 : 1;
        }
        return step;
    }

    public long hang(int n, int t, int what, int part) {
        boolean asTold = isWithin(n, 1, MOST_HUNG) && isWithin(t, 0, TENTHS)
            && isWithin(what, 0, 1) && isWithin(part, 0, 1);
        if (!asTold) {
            return GONE + OUTSIDE;
        }
        if (what == 0) {
            return partOf(chance.hangingTogether(n, t), power(TENTHS, pairs(n)), part);
        }
        return partOf((long) pairs(n) * t, TENTHS, part);
    }

    public int year(int seed, int m, int what) {
        if (!isWithin(seed, 0, MOST_SEED) || !isWithin(m, 1, MOST_YEAR_ACTS) || !isWithin(what, 0, 2)) {
            return OUTSIDE;
        }
        liveYear(seed, m);
        switch (what) {
            case 0:
                return trial.country.whoIsThere();
            case 1:
                return trial.sat;
            default:
                return trial.country.countWays();
        }
    }

    public int image(int k) {
        if (!isWithin(k, 0, IMAGES - 1)) {
            return OUTSIDE;
        }
        World kept = images[k];
        if (kept == null) {
            kept = new World();
            images[k] = kept;
        }
        kept.copyFrom(now);
        return 1;
    }

    public int restore(int k) {
        if (!isWithin(k, 0, IMAGES - 1)) {
            return OUTSIDE;
        }
        World kept = images[k];
        if (kept == null) {
            return STATE;
        }
        now.copyFrom(kept);
        return 1;
    }

    public int told(int what) {
        if (!isWithin(what, 0, 69)) {
            return OUTSIDE;
        }
        int one = what % 10;
        int group = what / 10;
        if (group == 0) {
            return tellOfAll(one);
        }
        if (group <= 3) {
            return isPerson(one) ? tellOfPerson(group, one) : OUTSIDE;
        }
        if (group <= 5) {
            return isThing(one) ? tellOfThing(group, one) : OUTSIDE;
        }
        return isCorner(one) ? now.country.ways[one] : OUTSIDE;
    }

    // ---- what the calls lean on

    private static boolean isWithin(int number, int least, int most) {
        return number >= least && number <= most;
    }

    private static boolean isCorner(int number) {
        return isWithin(number, 0, CORNERS - 1);
    }

    private static boolean isThing(int number) {
        return isWithin(number, 0, THINGS - 1);
    }

    private static boolean isPerson(int number) {
        return isWithin(number, 0, PEOPLE - 1);
    }

    private static boolean isClaim(int number) {
        return isWithin(number, 0, CLAIMS - 1);
    }

    private static boolean isQuestion(int x, int what, int y) {
        return isWithin(x, 0, FIVE - 1)
            && isWithin(what, IS_HONEST, JUST_SO_MANY_LIE)
            && isWithin(y, 0, what == JUST_SO_MANY_LIE ? FIVE : FIVE - 1);
    }

    private static boolean holds(int set, int one) {
        return (set >> one & 1) != 0;
    }

    /** Tries the pad's text from how all is now, and tells the refusals that the session calls share. */
    private int playSession() {
        trial.begin(now.country);
        if (pad.findFault() != NONE) {
            return NO;
        }
        pad.rewind();
        // Each act takes a sign at least, so there are no more acts than signs.
        for (int act = 0; act < pad.count && pad.readAct(); act++) {
            if (!trial.attempt(pad.kind, pad.one, pad.other)) {
                return STATE;
            }
        }
        return NOT_REFUSED;
    }

    private int tellOfAll(int what) {
        switch (what) {
            case 0:
                return pad.count;
            case 1:
                return now.country.countWays();
            case 2:
                return now.country.poleAsNumber();
            case 3:
                return now.country.hour;
            case 4:
                return now.rules.count;
            case 5:
                return now.sights.count;
            default:
                return OUTSIDE;
        }
    }

    private int tellOfPerson(int group, int person) {
        switch (group) {
            case 1:
                return now.country.cornerOfPerson(person);
            case 2:
                return now.country.faint[person];
            default:
                return now.country.sitsAsNumber(person);
        }
    }

    private int tellOfThing(int group, int thing) {
        return group == 4 ? now.country.cornerOfThing(thing) : now.country.holderOfThing(thing);
    }

    private void liveYear(int seed, int m) {
        trial.begin(now.country);
        int x = seed;
        for (int act = 0; act < m; act++) {
            x = (75 * x + 74) % 65537;
            attemptDrawn(x % 8, x / 8);
        }
    }

    private void attemptDrawn(int draw, int y) {
        int person = y % PEOPLE;
        switch (draw) {
            case 0:
                trial.attempt(SWEAR_WAY, y % 8, y / 8 % 8);
                break;
            case 1:
                trial.attempt(TAKE_WAY_BACK, y % 8, y / 8 % 8);
                break;
            case 2:
                trial.attempt(SWEAR_THING, y % 8, y / 8 % 8);
                break;
            case 3:
                trial.attempt(GO_OVER, person, 0);
                break;
            case 4:
                trial.attempt(GO_TO, person, y / 6 % 8);
                break;
            case 5:
                trial.attempt(TAKE_UP, person, y / 6 % 8);
                break;
            case 6:
                trial.attempt(y / 6 % 4 != 0 ? COME_BACK : SIT_DOWN, person, 0);
                break;
            default:
                trial.attempt(y % 4 != 0 ? PASS_HOUR : MOVE_POLE, 0, 0);
                break;
        }
    }

    // ---- liars: a set of liars is a number 0 to 31, and many such sets are the bits of one int

    /** The sets of liars by which x says yes to that question. */
    private static int setsOfYes(int x, int what, int y) {
        int sets = 0;
        for (int set = 0; set < LIAR_SETS; set++) {
            if (isTrue(set, what, y) != holds(set, x)) {
                sets |= 1 << set;
            }
        }
        return sets;
    }

    private static boolean isTrue(int liarSet, int what, int y) {
        switch (what) {
            case IS_HONEST:
                return !holds(liarSet, y);
            case IS_LIAR:
                return holds(liarSet, y);
            default:
                return Integer.bitCount(liarSet) == y;
        }
    }

    /** The question, told as one number, that leaves fewest of these sets at the most; the least of those. */
    private static int bestQuestion(int fitting) {
        int best = 0;
        int fewest = mostLeft(fitting, best);
        for (int question = 1; question < 100 * FIVE; question++) {
            if (isQuestion(question / 100, question / 10 % 10, question % 10)) {
                int left = mostLeft(fitting, question);
                if (left < fewest) {
                    fewest = left;
                    best = question;
                }
            }
        }
        return best;
    }

    private static int mostLeft(int fitting, int question) {
        int yesSets = setsOfYes(question / 100, question / 10 % 10, question % 10);
        return Math.max(Integer.bitCount(fitting & yesSets), Integer.bitCount(fitting & ~yesSets));
    }

    private static int placeOfBit(int bits, int i) {
        int before = 0;
        for (int place = 0; place < 32; place++) {
            if (holds(bits, place)) {
                if (before == i) {
                    return place;
                }
                before++;
            }
        }
        return NONE;
    }

    // ---- exact numbers

    private static int pairs(int n) {
        return n * (n - 1) / 2;
    }

    private static long power(long base, int exponent) {
        long result = 1;
        for (int i = 0; i < exponent; i++) {
            result *= base;
        }
        return result;
    }

    private static long partOf(long upper, long lower, int part) {
        long divisor = commonDivisor(upper, lower);
        if (divisor == 0) {
            return GONE + OUTSIDE;
        }
        return part == 0 ? upper / divisor : lower / divisor;
    }

    private static long commonDivisor(long a, long b) {
        long one = a;
        long other = b;
        // Euclid needs fewer than a hundred steps for any two longs.
        for (int step = 0; step < 100 && other != 0; step++) {
            long rest = one % other;
            one = other;
            other = rest;
        }
        return one;
    }

    /** Corners, ways, things, people, the pole and the hour. */
    private static final class Country {
        final int[] ways = new int[CORNERS];
        final int[] thingAt = new int[THINGS];
        final int[] personAt = new int[PEOPLE];
        final int[] faint = new int[PEOPLE];
        int sitting;
        boolean poleUp = true;
        int hour;

        Country() {
            for (int thing = 0; thing < THINGS; thing++) {
                thingAt[thing] = NOWHERE;
            }
            for (int person = 0; person < PEOPLE; person++) {
                personAt[person] = HERE;
            }
        }

        void copyFrom(Country other) {
            System.arraycopy(other.ways, 0, ways, 0, CORNERS);
            System.arraycopy(other.thingAt, 0, thingAt, 0, THINGS);
            System.arraycopy(other.personAt, 0, personAt, 0, PEOPLE);
            System.arraycopy(other.faint, 0, faint, 0, PEOPLE);
            sitting = other.sitting;
            poleUp = other.poleUp;
            hour = other.hour;
        }

        int countWays() {
            int ends = 0;
            for (int corner = 0; corner < CORNERS; corner++) {
                ends += Integer.bitCount(ways[corner]);
            }
            return ends / 2;
        }

        void setWay(int a, int b, boolean is) {
            if (is) {
                ways[a] |= 1 << b;
                ways[b] |= 1 << a;
            } else {
                ways[a] &= ~(1 << b);
                ways[b] &= ~(1 << a);
            }
        }

        int cornerOfThing(int thing) {
            return isCorner(thingAt[thing]) ? thingAt[thing] : NONE;
        }

        int holderOfThing(int thing) {
            return thingAt[thing] >= HELD ? thingAt[thing] - HELD : NONE;
        }

        int carriedBy(int person) {
            int carried = 0;
            for (int thing = 0; thing < THINGS; thing++) {
                if (thingAt[thing] == HELD + person) {
                    carried |= 1 << thing;
                }
            }
            return carried;
        }

        int cornerOfPerson(int person) {
            return personAt[person] == HERE ? NONE : personAt[person];
        }

        int sitsAsNumber(int person) {
            return holds(sitting, person) ? 1 : 0;
        }

        int poleAsNumber() {
            return poleUp ? 1 : 0;
        }

        int whoIsThere() {
            int who = 0;
            for (int person = 0; person < PEOPLE; person++) {
                if (personAt[person] != HERE) {
                    who |= 1 << person;
                }
            }
            return who;
        }

        /** He stands there with empty hands, whatever he did before. */
        void put(int person, int corner, int faintness) {
            for (int thing = 0; thing < THINGS; thing++) {
                if (thingAt[thing] == HELD + person) {
                    thingAt[thing] = NOWHERE;
                }
            }
            personAt[person] = corner;
            faint[person] = faintness;
            sitting &= ~(1 << person);
        }

        int whyNot(int kind, int one, int other) {
            switch (kind) {
                case SWEAR_WAY:
                    return whyNoWay(one, other, false);
                case TAKE_WAY_BACK:
                    return whyNoWay(one, other, true);
                case SWEAR_THING:
                    return thingAt[one] == NOWHERE ? CAN_BE : THING_IS_SOMEWHERE;
                case MOVE_POLE:
                    return CAN_BE;
                case PASS_HOUR:
                    return hour < LAST_HOUR ? CAN_BE : NO_HOUR_LEFT;
                case GO_OVER:
                    return whyNotOver(one);
                default:
                    return whyNotThere(kind, one, other);
            }
        }

        private int whyNoWay(int a, int b, boolean mustBe) {
            if (a == b) {
                return ONE_CORNER;
            }
            return holds(ways[a], b) == mustBe ? CAN_BE : WAY_IS_SO;
        }

        private int whyNotOver(int person) {
            if (personAt[person] != HERE) {
                return NOT_THAT_SIDE;
            }
            return poleUp ? CAN_BE : POLE_IS_DOWN;
        }

        private int whyNotThere(int kind, int person, int other) {
            int corner = personAt[person];
            if (corner == HERE) {
                return NOT_THAT_SIDE;
            }
            if (holds(sitting, person)) {
                return SITS_ALREADY;
            }
            switch (kind) {
                case COME_BACK:
                    if (!poleUp) {
                        return POLE_IS_DOWN;
                    }
                    return corner == 0 ? CAN_BE : NOT_AT_POLE;
                case GO_TO:
                    return holds(ways[corner], other) ? CAN_BE : NO_WAY_LEADS;
                case TAKE_UP:
                    return thingAt[other] == corner ? CAN_BE : NOT_ON_HIS_CORNER;
                default:
                    return CAN_BE;
            }
        }

        void perform(int kind, int one, int other) {
            switch (kind) {
                case SWEAR_WAY:
                case TAKE_WAY_BACK:
                    setWay(one, other, kind == SWEAR_WAY);
                    break;
                case SWEAR_THING:
                    thingAt[one] = other;
                    break;
                case MOVE_POLE:
                    poleUp = !poleUp;
                    break;
                case PASS_HOUR:
                    passHour();
                    break;
                case GO_OVER:
                    put(one, 0, 0);
                    break;
                case COME_BACK:
                    put(one, HERE, 0);
                    break;
                case GO_TO:
                    personAt[one] = other;
                    break;
                case TAKE_UP:
                    thingAt[other] = HELD + one;
                    break;
                default:
                    sitting |= 1 << one;
                    break;
            }
        }

        private void passHour() {
            hour++;
            for (int person = 0; person < PEOPLE; person++) {
                if (personAt[person] != HERE && !holds(sitting, person)) {
                    // One put there as faint as can be has not sat down yet, and gets no fainter.
                    faint[person] = Math.min(faint[person] + 1, MOST_FAINT);
                    if (faint[person] == MOST_FAINT) {
                        sitting |= 1 << person;
                    }
                }
            }
        }

        int fewestWays(int a, int b) {
            int reached = 1 << a;
            for (int steps = 0; steps < CORNERS; steps++) {
                if (holds(reached, b)) {
                    return steps;
                }
                reached |= neighboursOf(reached);
            }
            return NONE;
        }

        private int neighboursOf(int set) {
            int neighbours = 0;
            for (int corner = 0; corner < CORNERS; corner++) {
                if (holds(set, corner)) {
                    neighbours |= ways[corner];
                }
            }
            return neighbours;
        }

        int waysOutOf(int set) {
            int out = 0;
            for (int corner = 0; corner < CORNERS; corner++) {
                if (holds(set, corner)) {
                    out += Integer.bitCount(ways[corner] & ~set);
                }
            }
            return out;
        }

        int leastCut(int a, int b) {
            int best = 1 << a;
            int fewest = waysOutOf(best);
            // Rising sets, and only fewer ways replace the best: so the least set stays.
            for (int set = best; set < 1 << CORNERS; set++) {
                if (holds(set, a) && !holds(set, b)) {
                    int out = waysOutOf(set);
                    if (out < fewest) {
                        fewest = out;
                        best = set;
                    }
                }
            }
            return best;
        }
    }

    /** What follows from which two claims. */
    private static final class Rules {
        final int[] grounds = new int[MOST_RULES];
        final int[] claims = new int[MOST_RULES];
        int count;

        void copyFrom(Rules other) {
            System.arraycopy(other.grounds, 0, grounds, 0, MOST_RULES);
            System.arraycopy(other.claims, 0, claims, 0, MOST_RULES);
            count = other.count;
        }

        boolean add(int i, int j, int k) {
            if (count >= MOST_RULES) {
                return false;
            }
            grounds[count] = 1 << i | 1 << j;
            claims[count] = 1 << k;
            count++;
            return true;
        }

        int closure(int set) {
            int all = set;
            // Each round but the last adds a claim, and there are only so many claims.
            for (int round = 0; round < CLAIMS; round++) {
                int before = all;
                for (int rule = 0; rule < count; rule++) {
                    if ((grounds[rule] & all) == grounds[rule]) {
                        all |= claims[rule];
                    }
                }
                if (all == before) {
                    break;
                }
            }
            return all;
        }

        int leastGrounds(int k) {
            int best = (1 << CLAIMS) - 1 & ~(1 << k);
            if (!holds(closure(best), k)) {
                return NONE;
            }
            int fewest = Integer.bitCount(best);
            // Rising sets, and only fewer claims replace the best: so the least set stays.
            for (int set = 0; set < 1 << CLAIMS; set++) {
                int size = Integer.bitCount(set);
                if (size < fewest && !holds(set, k) && holds(closure(set), k)) {
                    fewest = size;
                    best = set;
                }
            }
            return best;
        }
    }

    /** What was answered: of each answer the sets of liars by which it is so. */
    private static final class Sights {
        final int[] sets = new int[MOST_SIGHTS];
        int count;

        void copyFrom(Sights other) {
            System.arraycopy(other.sets, 0, sets, 0, MOST_SIGHTS);
            count = other.count;
        }

        boolean add(int liarSets) {
            if (count >= MOST_SIGHTS) {
                return false;
            }
            sets[count] = liarSets;
            count++;
            return true;
        }

        int fitting() {
            int fitting = -1;
            for (int sight = 0; sight < count; sight++) {
                fitting &= sets[sight];
            }
            return fitting;
        }
    }

    /** All that an image keeps. */
    private static final class World {
        final Country country = new Country();
        final Rules rules = new Rules();
        final Sights sights = new Sights();

        void copyFrom(World other) {
            country.copyFrom(other.country);
            rules.copyFrom(other.rules);
            sights.copyFrom(other.sights);
        }
    }

    /** The signs said so far, and the acts that they tell, read one after another. */
    private static final class Pad {
        private final int[] signs = new int[PAD_SIZE];
        int count;
        private int place;
        // The act read last.
        int kind;
        int one;
        int other;

        boolean add(int sign) {
            if (count >= PAD_SIZE) {
                return false;
            }
            signs[count] = sign;
            count++;
            return true;
        }

        void rewind() {
            place = 0;
        }

        int findFault() {
            rewind();
            for (int act = 0; act < PAD_SIZE && place < count; act++) {
                if (!readAct()) {
                    return place;
                }
            }
            return NONE;
        }

        /** False if the text has no act here: the place is then that of the sign that can not stand. */
        boolean readAct() {
            one = take('A', PEOPLE);
            if (one != NONE) {
                return readDeed();
            }
            switch (signHere()) {
                case 'w':
                    return readPair(SWEAR_WAY, 'a', CORNERS);
                case 'x':
                    return readPair(TAKE_WAY_BACK, 'a', CORNERS);
                case 't':
                    return readPair(SWEAR_THING, '0', THINGS);
                case 'p':
                    return readLone(MOVE_POLE);
                case '.':
                    return readLone(PASS_HOUR);
                default:
                    return false;
            }
        }

        private boolean readDeed() {
            other = take('a', CORNERS);
            if (other != NONE) {
                kind = GO_TO;
                return true;
            }
            switch (signHere()) {
                case '(':
                    return readLone(GO_OVER);
                case ')':
                    return readLone(COME_BACK);
                case '!':
                    return readLone(SIT_DOWN);
                case '$':
                    readLone(TAKE_UP);
                    other = take('0', THINGS);
                    return other != NONE;
                default:
                    return false;
            }
        }

        private boolean readLone(int actKind) {
            kind = actKind;
            place++;
            return true;
        }

        private boolean readPair(int actKind, char firstOfRow, int many) {
            readLone(actKind);
            one = take(firstOfRow, many);
            if (one == NONE) {
                return false;
            }
            other = take('a', CORNERS);
            return other != NONE;
        }

        /** Behind the last sign there is 0, which stands nowhere: so a missing sign faults like a wrong one. */
        private int signHere() {
            return place >= 0 && place < count ? signs[place] : 0;
        }

        /** The number of the sign here in a row of signs, which is then read; NONE, and the place stays. */
        private int take(char firstOfRow, int many) {
            int number = signHere() - firstOfRow;
            if (number < 0 || number >= many) {
                return NONE;
            }
            place++;
            return number;
        }
    }

    /** Acts tried on a country of its own, so that nothing is done in fact. */
    private static final class Trial {
        final Country country = new Country();
        int acts;
        int why;
        int sat;
        int firstAct;
        int firstWho;

        void begin(Country from) {
            country.copyFrom(from);
            acts = 0;
            why = CAN_BE;
            sat = 0;
            firstAct = NONE;
            firstWho = NONE;
        }

        boolean attempt(int kind, int one, int other) {
            why = country.whyNot(kind, one, other);
            if (why != CAN_BE) {
                return false;
            }
            int satBefore = country.sitting;
            country.perform(kind, one, other);
            noteSitters(country.sitting & ~satBefore);
            acts++;
            return true;
        }

        private void noteSitters(int sitters) {
            if (sitters != 0 && sat == 0) {
                firstAct = acts;
                firstWho = placeOfBit(sitters, 0);
            }
            sat += Integer.bitCount(sitters);
        }
    }

    /** The walk by turns on which no corner comes twice. */
    private static final class Game {
        // For each set of corners where the token has been: the corners from which who is to go can win.
        private final int[] winning = new int[1 << CORNERS];

        int firstStep(int[] ways, int corner) {
            // A step makes the set of corners greater, so falling sets find what they need.
            for (int been = winning.length - 1; been > 0; been--) {
                winning[been] = winningFrom(ways, been);
            }
            return winningStep(ways, corner, 1 << corner);
        }

        private int winningFrom(int[] ways, int been) {
            int corners = 0;
            for (int corner = 0; corner < CORNERS; corner++) {
                if (holds(been, corner) && winningStep(ways, corner, been) != NONE) {
                    corners |= 1 << corner;
                }
            }
            return corners;
        }

        private int winningStep(int[] ways, int corner, int been) {
            int open = ways[corner] & ~been;
            for (int next = 0; next < CORNERS; next++) {
                if (holds(open, next) && !holds(winning[been | 1 << next], next)) {
                    return next;
                }
            }
            return NONE;
        }
    }

    /** How many of all cases, by tenths for each two corners, let corners hang together. */
    private static final class Chance {
        private final long[] together = new long[MOST_HUNG + 1];

        /** The upper number over ten to the power of the pairs of n corners. */
        long hangingTogether(int n, int t) {
            for (int size = 1; size <= n; size++) {
                together[size] = power(TENTHS, pairs(size)) - apart(size, t);
            }
            return together[n];
        }

        /** Cases in which only some, the first among them, hang together, and no way leads from them to the rest. */
        private long apart(int size, int t) {
            long cases = 0;
            long choices = 1;
            for (int some = 1; some < size; some++) {
                int rest = size - some;
                cases += choices * together[some] * power(TENTHS - t, some * rest) * power(TENTHS, pairs(rest));
                choices = choices * rest / some;
            }
            return cases;
        }
    }
}
