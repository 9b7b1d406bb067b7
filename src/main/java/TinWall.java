/** A tin in the wall: the calls that the document promises, over classes that hold and walk the hill. */
public final class TinWall {
    public static final int NONE = -1;

    private static final int NO_SUCH = -2;
    private static final int NOT_ASKED_SO = -3;

    private static final int MOST_BYTES = 400;
    private static final int FED_BYTES = 20;
    private static final int MOST_STONES = 10;
    private static final int MOST_THINGS = 6;
    private static final int MOST_SEEKERS = 4;
    private static final int MOST_WALKERS = 8;
    private static final int MOST_RULES = 6;
    private static final int MOST_ACTS = 20;
    private static final int MOST_NAMES = 10;
    private static final int MOST_IMAGES = 4;
    private static final int MOST_WEAR = 99;
    private static final int MOST_VAIN = 99;
    private static final int LAST_DAY = 999;
    private static final int LAST_NAMED_DAY = 60;
    private static final int FIRST_DAYS = 60;
    private static final int SHOWS_DAYS = 200;

    private final int[] tape = new int[MOST_BYTES];
    private int tapeLength;
    private final HillReader hillReader = new HillReader();
    private final RuleReader ruleReader = new RuleReader();
    private final Rule[] rules = new Rule[MOST_RULES];
    private int ruleCount;
    private final Scene scene = new Scene();
    private final Scene[] images = new Scene[MOST_IMAGES];
    private final Walk walk = new Walk();
    private final State trial = new State();
    /** Of none (row 0) and of each RULE, on which DAY each SEEKER wrote. */
    private final int[][] written = new int[MOST_RULES + 1][MOST_SEEKERS];
    private final int[] ordered = new int[MOST_STONES];

    public TinWall() {
    }

    // ---- the TAPE, the HILL, the RULES

    public int feed(int a, int b, int c, int d, int e) {
        if (tapeLength > MOST_BYTES - FED_BYTES) {
            return NONE;
        }
        append(a);
        append(b);
        append(c);
        append(d);
        append(e);
        return tapeLength;
    }

    private void append(int number) {
        for (int shift = 24; shift >= 0 && tapeLength < MOST_BYTES; shift -= 8) {
            tape[tapeLength] = (number >>> shift) & 255;
            tapeLength++;
        }
    }

    public int end(int n) {
        if (n < 0 || n > tapeLength) {
            return NONE;
        }
        tapeLength = n;
        return n;
    }

    public int hill() {
        Hill hill = new Hill();
        int fault = hillReader.read(hill, tape, tapeLength);
        tapeLength = 0;
        if (fault != 0) {
            return -2 - fault;
        }
        scene.begin(hill);
        return hill.stones;
    }

    public int rule() {
        if (ruleCount >= MOST_RULES) {
            return NONE;
        }
        int fault = ruleReader.read(tape, tapeLength);
        tapeLength = 0;
        if (fault != 0) {
            return -2 - fault;
        }
        rules[ruleCount] = ruleReader.handOver();
        ruleCount++;
        return ruleCount - 1;
    }

    public int force(int rule) {
        if (rule < NONE || rule >= ruleCount) {
            return NO_SUCH;
        }
        int was = scene.inForce;
        scene.inForce = rule;
        return was;
    }

    // ---- what is told of one STONE, SEEKER or THING

    public int stone(int stone, int what) {
        if (!hasStone(stone)) {
            return NONE;
        }
        switch (what) {
            case 0:
                return scene.hill.feet[stone];
            case 1:
                return scene.hill.hard[stone];
            case 2:
                return scene.hill.odds[stone];
            case 3:
                return scene.now.wear[stone];
            case 4:
                return scene.now.triedBy(stone);
            default:
                return NONE;
        }
    }

    public int seeker(int seeker, int what) {
        if (!hasSeeker(seeker)) {
            return NO_SUCH;
        }
        switch (what) {
            case 0:
                return scene.hill.skill[seeker];
            case 1:
                return scene.hill.patience[seeker];
            case 2:
                return scene.now.carried[seeker];
            case 3:
                return scene.hill.shift[seeker];
            case 4:
                return scene.now.foundOn[seeker];
            case 5:
                return scene.now.vain[seeker];
            case 6:
                return scene.now.tried[seeker];
            default:
                return NO_SUCH;
        }
    }

    public int thing(int thing) {
        return thing >= 0 && thing < scene.hill.things ? scene.now.worth[thing] : NONE;
    }

    // ---- ACTS

    public int day() {
        if (!scene.hill.told || scene.now.day >= LAST_DAY) {
            return NONE;
        }
        scene.remember();
        return walk.pass(scene.hill, ruleInForce(), scene.now, false);
    }

    public int hide(int stone) {
        if (!hasStone(stone) || scene.now.tin == stone) {
            return NO_SUCH;
        }
        scene.remember();
        int was = scene.now.tin;
        scene.now.tin = stone;
        return was;
    }

    public int rest(int stone) {
        if (!hasStone(stone) || scene.now.wear[stone] == 0) {
            return NONE;
        }
        scene.remember();
        int was = scene.now.wear[stone];
        scene.now.wear[stone] = 0;
        return was;
    }

    public int figure(int figure) {
        if (!scene.hill.told || figure < 0 || figure > 99 || figure == scene.now.figure) {
            return NONE;
        }
        scene.remember();
        int was = scene.now.figure;
        scene.now.figure = figure;
        return was;
    }

    public int forget(int seeker) {
        if (!hasSeeker(seeker) || scene.now.foundOn[seeker] == NONE) {
            return NONE;
        }
        scene.remember();
        int was = scene.now.foundOn[seeker];
        scene.now.foundOn[seeker] = NONE;
        return was;
    }

    public int undo() {
        return scene.takeBack() ? scene.acts : NO_SUCH;
    }

    // ---- what comes, if nothing is done

    public int ahead(int number, int n, int what) {
        if (!scene.hill.told || n < 0 || n > 100) {
            return NO_SUCH;
        }
        trial.copy(scene.now);
        goOn(n);
        if (what == 0) {
            return trial.tin;
        }
        if (what == 1 && hasStone(number)) {
            return trial.wear[number];
        }
        if (what == 2 && hasSeeker(number)) {
            return trial.foundOn[number];
        }
        return NO_SUCH;
    }

    public int today(int seeker, int k) {
        if (!hasSeeker(seeker) || k < NONE) {
            return NOT_ASKED_SO;
        }
        trial.copy(scene.now);
        trial.foundOn[seeker] = NONE;
        walk.look(scene.hill, ruleInForce(), trial, seeker);
        if (k == NONE) {
            return walk.minutes;
        }
        return k < walk.lookedAt ? walk.looked[k] : NO_SUCH;
    }

    public int first(int what) {
        if (!isTold(what)) {
            return NONE;
        }
        trial.copy(scene.now);
        for (int i = 0; i < FIRST_DAYS; i++) {
            int today = trial.day;
            if (goOn(1) > 0) {
                return what == 0 ? trial.finderOn(today) : today;
            }
        }
        return NO_SUCH;
    }

    public int hiding(int n, int what) {
        if (!isTold(what) || n < 1 || n > 60) {
            return NONE;
        }
        int best = NO_SUCH;
        int most = NO_SUCH;
        boolean stays = false;
        for (int stone = 0; stone < scene.hill.stones; stone++) {
            trial.copy(scene.now);
            trial.tin = stone;
            goOn(n);
            int found = trial.finders();
            boolean there = trial.tin != NONE;
            if (found > most || (found == most && there && !stays)) {
                best = stone;
                most = found;
                stays = there;
            }
        }
        return what == 0 ? best : most;
    }

    public int worth(int n) {
        if (!scene.hill.told || n < 0 || n > 100) {
            return NONE;
        }
        trial.copy(scene.now);
        goOn(n);
        int sum = 0;
        for (int thing = 0; thing < scene.hill.things; thing++) {
            sum += trial.worth[thing];
        }
        return sum;
    }

    public int wanders(int n) {
        if (!scene.hill.told || n < 1 || n > 100) {
            return NONE;
        }
        trial.copy(scene.now);
        int places = bit(trial.tin);
        for (int i = 0; i < n; i++) {
            goOn(1);
            places |= bit(trial.tin);
        }
        return Integer.bitCount(places);
    }

    public int shows(int what) {
        if (!isTold(what)) {
            return NONE;
        }
        trial.copy(scene.now);
        for (int i = 0; i < SHOWS_DAYS; i++) {
            int stone = trial.firstWorn(scene.hill);
            if (stone != NONE) {
                return what == 0 ? stone : trial.day;
            }
            goOn(1);
        }
        return NO_SUCH;
    }

    // ---- where to look, and how likely it is there

    public int order(int seeker, int k) {
        if (!hasSeeker(seeker) || k < 0) {
            return NONE;
        }
        int many = putInOrder(seeker);
        return k < many ? ordered[k] : NO_SUCH;
    }

    public int mean(int seeker, int part) {
        if (!hasSeeker(seeker) || !isPart(part)) {
            return NONE;
        }
        int many = putInOrder(seeker);
        int soFar = 0;
        int above = 0;
        int below = 0;
        for (int k = 0; k < many; k++) {
            int stone = ordered[k];
            soFar += scene.hill.minutes(scene.now, seeker, stone);
            above += scene.hill.odds[stone] * soFar;
            below += scene.hill.odds[stone];
        }
        return ofLowestTerms(above, below, part);
    }

    public int gone(int part) {
        if (!isTold(part)) {
            return NONE;
        }
        int all = 0;
        int untried = 0;
        for (int stone = 0; stone < scene.hill.stones; stone++) {
            all += scene.hill.odds[stone];
            if (scene.now.triedBy(stone) == 0) {
                untried += scene.hill.odds[stone];
            }
        }
        int above = scene.hill.lost * all;
        int below = above + (100 - scene.hill.lost) * untried;
        return ofLowestTerms(above, below, part);
    }

    public int hint(int what) {
        if (!isTold(what)) {
            return NONE;
        }
        int best = 1;
        int least = scene.hill.greaterPart(1);
        for (int feet = 2; feet <= 99; feet++) {
            int greater = scene.hill.greaterPart(feet);
            if (greater < least) {
                best = feet;
                least = greater;
            }
        }
        return what == 0 ? best : least;
    }

    // ---- NAMES

    public int name(int n, int seeker) {
        if (n == NONE) {
            scene.names = 0;
            return 0;
        }
        if (n < 0 || n > LAST_NAMED_DAY || !hasSeeker(seeker) || scene.names >= MOST_NAMES) {
            return NO_SUCH;
        }
        scene.nameDay[scene.names] = n;
        scene.nameSeeker[scene.names] = seeker;
        scene.names++;
        return scene.names;
    }

    public int ruled(int what) {
        if (!isTold(what)) {
            return NOT_ASKED_SO;
        }
        fillWritten();
        int many = 0;
        int first = NO_SUCH;
        for (int row = 0; row <= ruleCount; row++) {
            if (isAsNamed(row)) {
                first = many == 0 ? row - 1 : first;
                many++;
            }
        }
        return what == 0 ? many : first;
    }

    public int ask(int what) {
        if (!isTold(what)) {
            return NONE;
        }
        fillWritten();
        int best = NO_SUCH;
        int fewest = NO_SUCH;
        for (int seeker = 0; seeker < scene.hill.seekers; seeker++) {
            int alike = mostAlike(seeker);
            if (alike > 0 && (best == NO_SUCH || alike < fewest)) {
                best = seeker;
                fewest = alike;
            }
        }
        return what == 0 ? best : fewest;
    }

    public int forged() {
        if (!scene.hill.told) {
            return NONE;
        }
        fillWritten();
        int bits = 0;
        for (int name = 0; name < scene.names; name++) {
            boolean genuine = false;
            for (int row = 0; row <= ruleCount; row++) {
                genuine = genuine || holds(name, row);
            }
            bits |= genuine ? 0 : bit(name);
        }
        return bits;
    }

    // ---- DRAWS

    public int seed(int x) {
        if (x < 0) {
            return NONE;
        }
        int was = scene.x;
        scene.x = x;
        return was;
    }

    public int years(int m, int n, int p, int what) {
        if (!isTold(what) || m < 1 || m > 10 || n < 1 || n > 60 || p < 0 || p > 100) {
            return NONE;
        }
        int x = scene.x;
        int gone = 0;
        int found = 0;
        for (int time = 0; time < m; time++) {
            trial.copy(scene.now);
            for (int i = 0; i < n; i++) {
                x = drawnAfter(x);
                found += walk.pass(scene.hill, ruleInForce(), trial, x / 65536 % 100 < p);
            }
            gone += trial.tin == NONE ? 1 : 0;
        }
        return what == 0 ? gone : found;
    }

    // ---- counts and IMAGES

    public int count(int what) {
        switch (what) {
            case 0:
                return scene.now.figure;
            case 1:
                return scene.hill.notice;
            case 2:
                return scene.hill.lost;
            case 3:
                return scene.hill.stones;
            case 4:
                return scene.hill.things;
            case 5:
                return scene.hill.seekers;
            case 6:
                return ruleCount;
            case 7:
                return scene.inForce;
            case 8:
                return scene.now.day;
            case 9:
                return scene.now.tin;
            case 10:
                return scene.now.finderBits();
            case 11:
                return scene.hill.walkersCome(scene.now.day) ? 1 : 0;
            case 12:
                return scene.names;
            case 13:
                return scene.acts;
            case 14:
                return scene.x;
            case 15:
                return tapeLength;
            default:
                return NONE;
        }
    }

    public int image(int k) {
        if (k < 0 || k >= MOST_IMAGES) {
            return NONE;
        }
        if (images[k] == null) {
            images[k] = new Scene();
        }
        images[k].copy(scene);
        return scene.now.day;
    }

    public int back(int k) {
        if (k < 0 || k >= MOST_IMAGES || images[k] == null) {
            return NONE;
        }
        scene.copy(images[k]);
        return scene.now.day;
    }

    // ---- helpers of several calls

    private boolean hasStone(int stone) {
        return stone >= 0 && stone < scene.hill.stones;
    }

    private boolean hasSeeker(int seeker) {
        return seeker >= 0 && seeker < scene.hill.seekers;
    }

    private static boolean isPart(int what) {
        return what == 0 || what == 1;
    }

    /** Many calls have two answers, what 0 and 1, and none without a HILL. */
    private boolean isTold(int what) {
        return scene.hill.told && isPart(what);
    }

    private Rule ruleInForce() {
        return ruleOf(scene.inForce);
    }

    private Rule ruleOf(int rule) {
        return rule >= 0 && rule < ruleCount ? rules[rule] : null;
    }

    /** DAYS of the trial, by the RULE IN FORCE: how many FIND it in them. */
    private int goOn(int days) {
        Rule rule = ruleInForce();
        int finders = 0;
        for (int i = 0; i < days; i++) {
            finders += walk.pass(scene.hill, rule, trial, false);
        }
        return finders;
    }

    /** The bit of a place in a row of at most 30; none for NONE. */
    private static int bit(int place) {
        return place >= 0 && place < 30 ? 1 << place : 0;
    }

    private static int drawnAfter(int x) {
        return (int) ((x * 1103515245L + 12345L) & 2147483647L);
    }

    private int putInOrder(int seeker) {
        int many = 0;
        for (int stone = 0; stone < scene.hill.stones; stone++) {
            if (scene.hill.odds[stone] > 0) {
                int k = many;
                while (k > 0 && isBetter(seeker, stone, ordered[k - 1])) {
                    ordered[k] = ordered[k - 1];
                    k--;
                }
                ordered[k] = stone;
                many++;
            }
        }
        return many;
    }

    /** Whether the ODDS by MINUTES of a STONE are greater than another's, without dividing. */
    private boolean isBetter(int seeker, int stone, int other) {
        int mine = scene.hill.odds[stone] * scene.hill.minutes(scene.now, seeker, other);
        int theirs = scene.hill.odds[other] * scene.hill.minutes(scene.now, seeker, stone);
        return mine > theirs;
    }

    private static int ofLowestTerms(int above, int below, int part) {
        if (below <= 0) {
            return part == 0 ? 0 : 1;
        }
        int measure = below;
        int left = above;
        for (int i = 0; i < 100 && left > 0; i++) {
            int rest = measure % left;
            measure = left;
            left = rest;
        }
        if (measure <= 0) {
            return NONE;
        }
        return (part == 0 ? above : below) / measure;
    }

    private void fillWritten() {
        for (int row = 0; row <= ruleCount; row++) {
            Rule rule = ruleOf(row - 1);
            trial.begin(scene.hill);
            for (int i = 0; i <= LAST_NAMED_DAY; i++) {
                walk.pass(scene.hill, rule, trial, false);
            }
            System.arraycopy(trial.foundOn, 0, written[row], 0, MOST_SEEKERS);
        }
    }

    private boolean holds(int name, int row) {
        return written[row][scene.nameSeeker[name]] == scene.nameDay[name];
    }

    private boolean isAsNamed(int row) {
        for (int name = 0; name < scene.names; name++) {
            if (!holds(name, row)) {
                return false;
            }
        }
        return true;
    }

    /** Of all that are as named: how many at most have this SEEKER write on the same DAY. */
    private int mostAlike(int seeker) {
        int most = 0;
        for (int row = 0; row <= ruleCount; row++) {
            int alike = 0;
            for (int other = 0; other <= ruleCount; other++) {
                if (isAsNamed(other) && written[other][seeker] == written[row][seeker]) {
                    alike++;
                }
            }
            most = Math.max(most, alike);
        }
        return most;
    }

    // ---- the classes inside

    /** A HILL as its text told it; it is never changed after that, so IMAGES share it. */
    private static final class Hill {
        boolean told;
        int figure;
        int notice;
        int lost;
        int stones;
        final int[] feet = new int[MOST_STONES];
        final int[] hard = new int[MOST_STONES];
        final int[] odds = new int[MOST_STONES];
        int tin = NONE;
        int things;
        final int[] worth = new int[MOST_THINGS];
        int seekers;
        final int[] skill = new int[MOST_SEEKERS];
        final int[] patience = new int[MOST_SEEKERS];
        final int[] carried = new int[MOST_SEEKERS];
        final int[] shift = new int[MOST_SEEKERS];
        int walkers;
        final int[] walkerDay = new int[MOST_WALKERS];

        int minutes(State state, int seeker, int stone) {
            return Math.max(1, hard[stone] - skill[seeker] - state.wear[stone] / 4);
        }

        boolean walkersCome(int day) {
            for (int i = 0; i < walkers; i++) {
                if (walkerDay[i] == day) {
                    return true;
                }
            }
            return false;
        }

        /** The greater part of the ODDS, parted by whether the FEET are below a number. */
        int greaterPart(int number) {
            int lower = 0;
            int upper = 0;
            for (int stone = 0; stone < stones; stone++) {
                if (feet[stone] < number) {
                    lower += odds[stone];
                } else {
                    upper += odds[stone];
                }
            }
            return Math.max(lower, upper);
        }
    }

    /** All that ACTS change. */
    private static final class State {
        int day;
        int figure;
        int tin = NONE;
        final int[] wear = new int[MOST_STONES];
        final int[] worth = new int[MOST_THINGS];
        final int[] carried = new int[MOST_SEEKERS];
        final int[] foundOn = {NONE, NONE, NONE, NONE};
        final int[] vain = new int[MOST_SEEKERS];
        final int[] tried = new int[MOST_SEEKERS];

        void begin(Hill hill) {
            day = 0;
            figure = hill.figure;
            tin = hill.tin;
            System.arraycopy(hill.worth, 0, worth, 0, MOST_THINGS);
            System.arraycopy(hill.carried, 0, carried, 0, MOST_SEEKERS);
            for (int stone = 0; stone < MOST_STONES; stone++) {
                wear[stone] = 0;
            }
            for (int seeker = 0; seeker < MOST_SEEKERS; seeker++) {
                foundOn[seeker] = NONE;
                vain[seeker] = 0;
                tried[seeker] = 0;
            }
        }

        void copy(State other) {
            day = other.day;
            figure = other.figure;
            tin = other.tin;
            System.arraycopy(other.wear, 0, wear, 0, MOST_STONES);
            System.arraycopy(other.worth, 0, worth, 0, MOST_THINGS);
            System.arraycopy(other.carried, 0, carried, 0, MOST_SEEKERS);
            System.arraycopy(other.foundOn, 0, foundOn, 0, MOST_SEEKERS);
            System.arraycopy(other.vain, 0, vain, 0, MOST_SEEKERS);
            System.arraycopy(other.tried, 0, tried, 0, MOST_SEEKERS);
        }

        int finderBits() {
            int bits = 0;
            for (int seeker = 0; seeker < MOST_SEEKERS; seeker++) {
                bits |= foundOn[seeker] == NONE ? 0 : 1 << seeker;
            }
            return bits;
        }

        int finders() {
            return Integer.bitCount(finderBits());
        }

        /** The least SEEKER who FOUND it on a DAY. */
        int finderOn(int when) {
            for (int seeker = 0; seeker < MOST_SEEKERS; seeker++) {
                if (foundOn[seeker] == when) {
                    return seeker;
                }
            }
            return NO_SUCH;
        }

        int triedBy(int stone) {
            int bits = 0;
            for (int seeker = 0; seeker < MOST_SEEKERS; seeker++) {
                bits |= ((tried[seeker] >> stone) & 1) << seeker;
            }
            return bits;
        }

        int firstWorn(Hill hill) {
            for (int stone = 0; stone < hill.stones; stone++) {
                if (wear[stone] >= hill.notice) {
                    return stone;
                }
            }
            return NONE;
        }
    }

    /** All that an IMAGE keeps. */
    private static final class Scene {
        Hill hill = new Hill();
        int inForce = NONE;
        int x;
        final State now = new State();
        final State[] past = new State[MOST_ACTS];
        int nextPast;
        int acts;
        int names;
        final int[] nameDay = new int[MOST_NAMES];
        final int[] nameSeeker = new int[MOST_NAMES];

        Scene() {
            for (int i = 0; i < MOST_ACTS; i++) {
                past[i] = new State();
            }
        }

        void begin(Hill other) {
            hill = other;
            now.begin(other);
            acts = 0;
            names = 0;
        }

        void copy(Scene other) {
            hill = other.hill;
            inForce = other.inForce;
            x = other.x;
            now.copy(other.now);
            for (int i = 0; i < MOST_ACTS; i++) {
                past[i].copy(other.past[i]);
            }
            nextPast = other.nextPast;
            acts = other.acts;
            names = other.names;
            System.arraycopy(other.nameDay, 0, nameDay, 0, MOST_NAMES);
            System.arraycopy(other.nameSeeker, 0, nameSeeker, 0, MOST_NAMES);
        }

        /** Keeps what is now, ahead of an ACT; the oldest of twenty gives its place. */
        void remember() {
            past[nextPast].copy(now);
            nextPast = (nextPast + 1) % MOST_ACTS;
            acts = Math.min(MOST_ACTS, acts + 1);
        }

        boolean takeBack() {
            if (acts == 0) {
                return false;
            }
            nextPast = (nextPast + MOST_ACTS - 1) % MOST_ACTS;
            now.copy(past[nextPast]);
            acts--;
            return true;
        }
    }

    /** LOOKING and DAYS, with the rows they need. */
    private static final class Walk {
        /** The WORDS of a SEEKER and a STONE, in the order of Rule.NAMED. */
        private final long[] words = new long[Rule.WORDS];
        private final long[] rating = new long[MOST_STONES];
        final int[] looked = new int[MOST_STONES];
        int lookedAt;
        int minutes;
        private boolean found;

        /** One DAY: how many FIND it. Walkers that were drawn come beside those that were told. */
        int pass(Hill hill, Rule rule, State state, boolean drawn) {
            int finders = 0;
            for (int seeker = 0; seeker < hill.seekers; seeker++) {
                if (state.foundOn[seeker] == NONE) {
                    look(hill, rule, state, seeker);
                    leaveTraces(state, seeker);
                    if (found) {
                        finders++;
                        state.foundOn[seeker] = state.day;
                        swap(hill, state, seeker);
                        putBack(hill, state, hill.shift[seeker]);
                    } else {
                        state.vain[seeker] = Math.min(MOST_VAIN, state.vain[seeker] + 1);
                    }
                }
            }
            if ((drawn || hill.walkersCome(state.day)) && isSeen(hill, state)) {
                state.tin = NONE;
            }
            state.day++;
            return finders;
        }

        /** Fills looked, lookedAt, minutes and found; the state stays as it is. */
        void look(Hill hill, Rule rule, State state, int seeker) {
            setSeekerWords(hill, state, seeker);
            for (int stone = 0; stone < hill.stones; stone++) {
                rating[stone] = rate(hill, rule, state, seeker, stone);
            }
            lookedAt = 0;
            minutes = 0;
            found = false;
            int left = (1 << hill.stones) - 1;
            for (int i = 0; i < hill.stones && !found; i++) {
                int stone = bestOf(left, hill.stones);
                int takes = stone == NONE ? 0 : hill.minutes(state, seeker, stone);
                if (stone == NONE || minutes + takes > hill.patience[seeker]) {
                    return;
                }
                left &= ~(1 << stone);
                looked[lookedAt] = stone;
                lookedAt++;
                minutes += takes;
                found = stone == state.tin;
            }
        }

        private void setSeekerWords(Hill hill, State state, int seeker) {
            words[0] = seeker;
            words[6] = state.figure;
            words[9] = hill.skill[seeker];
            words[10] = state.vain[seeker];
            words[12] = state.finders();
            words[13] = state.day;
        }

        /** The greater, the sooner they look there. */
        private long rate(Hill hill, Rule rule, State state, int seeker, int stone) {
            int off = Math.abs(hill.feet[stone] - state.figure);
            if (rule == null) {
                return -off;
            }
            words[1] = stone;
            words[2] = hill.feet[stone];
            words[3] = hill.hard[stone];
            words[4] = hill.odds[stone];
            words[5] = state.wear[stone];
            words[7] = off;
            words[8] = hill.minutes(state, seeker, stone);
            words[11] = (state.tried[seeker] >> stone) & 1;
            return rule.sum(words);
        }

        private int bestOf(int left, int stones) {
            int best = NONE;
            for (int stone = 0; stone < stones; stone++) {
                boolean isLeft = ((left >> stone) & 1) == 1;
                if (isLeft && (best == NONE || rating[stone] > rating[best])) {
                    best = stone;
                }
            }
            return best;
        }

        private void leaveTraces(State state, int seeker) {
            for (int k = 0; k < lookedAt; k++) {
                int stone = looked[k];
                state.wear[stone] = Math.min(MOST_WEAR, state.wear[stone] + 1);
                state.tried[seeker] |= 1 << stone;
            }
        }

        private static void swap(Hill hill, State state, int seeker) {
            int best = NONE;
            for (int thing = 0; thing < hill.things; thing++) {
                if (best == NONE || state.worth[thing] > state.worth[best]) {
                    best = thing;
                }
            }
            if (best != NONE && state.worth[best] > state.carried[seeker]) {
                int theirs = state.carried[seeker];
                state.carried[seeker] = state.worth[best];
                state.worth[best] = theirs;
            }
        }

        private static void putBack(Hill hill, State state, int shift) {
            if (shift == 1 && state.tin < hill.stones - 1) {
                state.tin++;
            } else if (shift == 2 && state.tin > 0) {
                state.tin--;
            }
        }

        private static boolean isSeen(Hill hill, State state) {
            boolean there = state.tin >= 0 && state.tin < hill.stones;
            return there && state.wear[state.tin] >= hill.notice;
        }
    }

    /** A RULE, its SUMS and TESTS as steps on a stack: a NUMBER is itself, all else is below 0. */
    private static final class Rule {
        static final String NAMED = "seeker stone feet hard odds wear figure off minutes skill vain tried found day";
        static final int WORDS = 14;
        static final int MOST_CLAUSES = 12;
        static final int FIRST_WORD = -1;
        static final int PLUS = -15;
        static final int MINUS = -16;
        static final int TIMES = -17;
        static final int OVER = -18;
        static final int REMAINDER = -19;
        static final int LESS = -20;
        static final int AT_MOST = -21;
        static final int EQUAL = -22;
        static final int AT_LEAST = -23;
        static final int MORE = -24;
        static final int AND = -25;
        static final int OR = -26;
        static final int NOT = -27;

        private final int[] steps = new int[MOST_BYTES];
        private int size;
        /** Where a CLAUSE's SUM starts; the end of the last one stands behind it. */
        private final int[] start = new int[MOST_CLAUSES + 1];
        private final int[] testStart = new int[MOST_CLAUSES];
        private int clauses;
        private final long[] stack = new long[64];

        void clear() {
            size = 0;
            clauses = 0;
        }

        void put(int step) {
            if (size < steps.length) {
                steps[size] = step;
                size++;
            }
        }

        void beginTest() {
            if (clauses < MOST_CLAUSES) {
                testStart[clauses] = size;
            }
        }

        void endClause() {
            if (clauses < MOST_CLAUSES) {
                clauses++;
                start[clauses] = size;
            }
        }

        /** The SUM of the first CLAUSE without a TEST, or whose TEST holds; 0 without. */
        long sum(long[] words) {
            for (int i = 0; i < clauses; i++) {
                boolean untested = testStart[i] == start[i + 1];
                if (untested || run(testStart[i], start[i + 1], words) != 0) {
                    return run(start[i], testStart[i], words);
                }
            }
            return 0;
        }

        private long run(int from, int to, long[] words) {
            int top = 0;
            for (int i = from; i < to; i++) {
                int step = steps[i];
                if (step > PLUS && top < stack.length) {
                    stack[top] = step >= 0 ? step : words[FIRST_WORD - step];
                    top++;
                } else if (step == NOT && top >= 1) {
                    stack[top - 1] = 1 - stack[top - 1];
                } else if (top >= 2) {
                    top--;
                    stack[top - 1] = joined(step, stack[top - 1], stack[top]);
                }
            }
            return stack[0];
        }

        private static long joined(int step, long a, long b) {
            switch (step) {
                case PLUS:
                    return a + b;
                case MINUS:
                    return a - b;
                case TIMES:
                    return a * b;
                case OVER:
                    return b == 0 ? 0 : a / b;
                case REMAINDER:
                    return b == 0 ? 0 : a % b;
                case LESS:
                    return a < b ? 1 : 0;
                case AT_MOST:
                    return a <= b ? 1 : 0;
                case EQUAL:
                    return a == b ? 1 : 0;
                case AT_LEAST:
                    return a >= b ? 1 : 0;
                case MORE:
                    return a > b ? 1 : 0;
                case AND:
                    return a & b;
                default:
                    return a | b;
            }
        }
    }

    /** A text from its first byte on, and the first FAULT along it (0: none so far). */
    private static final class Reader {
        static final int CANNOT_STAND = 0;
        static final int WRONG_NUMBER = 1;
        static final int TOO_DEEP = 2;
        static final int TOO_MANY_VALUES = 3;
        static final int TOO_MANY_CLAUSES = 4;
        private static final int MOST_DIGITS = 5;

        private int[] text = new int[0];
        private int length;
        int place;
        int fault;

        void open(int[] bytes, int many) {
            text = bytes;
            length = Math.min(many, bytes.length);
            place = 0;
            fault = 0;
        }

        /** Only the first FAULT counts: parts are read along the text, so it is the least, too. */
        void failAt(int where, int kind) {
            if (fault == 0) {
                fault = 1 + 8 * where + kind;
            }
        }

        /** The byte at the next place that is no blank; NONE at the end. */
        int next() {
            while (place < length && text[place] == ' ') {
                place++;
            }
            return place < length ? text[place] : NONE;
        }

        /** The byte behind this one; NONE at the end. */
        int behind() {
            return place + 1 < length ? text[place + 1] : NONE;
        }

        void pass(int bytes) {
            place = Math.min(length, place + bytes);
        }

        /** Whether the text goes on with another CLAUSE; what can't stand behind one is a FAULT. */
        boolean hasNextClause() {
            if (fault != 0 || next() == NONE) {
                return false;
            }
            take(';');
            return fault == 0;
        }

        void take(int sign) {
            if (next() == sign) {
                pass(1);
            } else {
                failAt(place, CANNOT_STAND);
            }
        }

        static boolean isDigit(int sign) {
            return sign >= '0' && sign <= '9';
        }

        /** The NUMBER that stands next; what it is not as told, or no NUMBER, is a FAULT. */
        int number(int least, int most) {
            if (!isDigit(next())) {
                failAt(place, CANNOT_STAND);
            }
            int from = place;
            int value = 0;
            while (place < length && isDigit(text[place])) {
                value = place - from < MOST_DIGITS ? value * 10 + text[place] - '0' : value;
                place++;
            }
            if (place - from > MOST_DIGITS || value < least || value > most) {
                failAt(from, WRONG_NUMBER);
            }
            return value;
        }

        /** Which of the words (parted by blanks) stands next, NONE: none of them; it is not passed. */
        int word(String words) {
            next();
            int size = wordSize();
            int number = 0;
            int from = 0;
            for (int i = 0; i <= words.length(); i++) {
                if (i == words.length() || words.charAt(i) == ' ') {
                    if (size > 0 && i - from == size && isSame(words, from, size)) {
                        return number;
                    }
                    number++;
                    from = i + 1;
                }
            }
            return NONE;
        }

        boolean takeWord(String word) {
            boolean stands = word(word) == 0;
            if (stands) {
                pass(word.length());
            }
            return stands;
        }

        int wordSize() {
            int to = place;
            while (to < length && text[to] >= 'a' && text[to] <= 'z') {
                to++;
            }
            return to - place;
        }

        private boolean isSame(String words, int from, int size) {
            for (int i = 0; i < size && place + i < length && from + i < words.length(); i++) {
                if (text[place + i] != words.charAt(from + i)) {
                    return false;
                }
            }
            return true;
        }
    }

    /** Reads a HILL. */
    private static final class HillReader {
        private static final String KINDS = "hill stone tin thing seeker walker";
        private static final int HILL = 0;
        private static final int STONE = 1;
        private static final int TIN = 2;
        private static final int THING = 3;
        private static final int SEEKER = 4;
        private static final int MOST_CLAUSES = 40;

        private final Reader reader = new Reader();

        /** The FAULT; 0, and the HILL is told, without one. The HILL is to be a new one. */
        int read(Hill hill, int[] bytes, int many) {
            reader.open(bytes, many);
            boolean more = true;
            for (int i = 0; i <= MOST_CLAUSES && more; i++) {
                readClause(hill, i);
                more = reader.hasNextClause();
            }
            hill.told = reader.fault == 0;
            return reader.fault;
        }

        private void readClause(Hill hill, int clause) {
            int kind = reader.word(KINDS);
            if (kind == NONE) {
                reader.failAt(reader.place, Reader.CANNOT_STAND);
            } else if (clause >= MOST_CLAUSES || (kind == HILL) != (clause == 0) || isFull(hill, kind)) {
                reader.failAt(reader.place, Reader.TOO_MANY_CLAUSES);
            } else {
                reader.pass(reader.wordSize());
                readNumbers(hill, kind);
            }
        }

        private static boolean isFull(Hill hill, int kind) {
            switch (kind) {
                case HILL:
                case TIN:
                    return false;
                case STONE:
                    return hill.stones >= MOST_STONES;
                case THING:
                    return hill.things >= MOST_THINGS;
                case SEEKER:
                    return hill.seekers >= MOST_SEEKERS;
                default:
                    return hill.walkers >= MOST_WALKERS;
            }
        }

        private void readNumbers(Hill hill, int kind) {
            switch (kind) {
                case HILL:
                    hill.figure = reader.number(0, 99);
                    hill.notice = reader.number(1, 50);
                    hill.lost = reader.number(0, 99);
                    break;
                case STONE:
                    hill.feet[hill.stones] = reader.number(0, 99);
                    hill.hard[hill.stones] = reader.number(1, 20);
                    hill.odds[hill.stones] = reader.number(0, 9);
                    hill.stones++;
                    break;
                case TIN:
                    hill.tin = reader.number(0, hill.stones - 1);
                    break;
                case THING:
                    hill.worth[hill.things] = reader.number(0, 99);
                    hill.things++;
                    break;
                case SEEKER:
                    readSeeker(hill, hill.seekers);
                    hill.seekers++;
                    break;
                default:
                    hill.walkerDay[hill.walkers] = reader.number(0, 99);
                    hill.walkers++;
                    break;
            }
        }

        private void readSeeker(Hill hill, int seeker) {
            hill.skill[seeker] = reader.number(0, 9);
            hill.patience[seeker] = reader.number(1, 99);
            hill.carried[seeker] = reader.number(0, 99);
            hill.shift[seeker] = reader.number(0, 2);
        }
    }

    /** Reads a RULE; PARTS are read with the TEST, and TERMS with the SUM, in which they lie. */
    private static final class RuleReader {
        private static final int DEEPEST = 10;
        private static final int MOST_VALUES = 60;

        private final Reader reader = new Reader();
        private Rule rule = new Rule();
        /** VALUES and FACTS made of a SIGN so far. */
        private int values;

        /** The FAULT; 0, and the RULE can be handed over, without one. */
        int read(int[] bytes, int many) {
            reader.open(bytes, many);
            rule.clear();
            values = 0;
            boolean more = true;
            for (int i = 0; i <= Rule.MOST_CLAUSES && more; i++) {
                beginClause(i);
                readSum();
                rule.beginTest();
                if (reader.takeWord("if")) {
                    readTest(0);
                }
                rule.endClause();
                more = reader.hasNextClause();
            }
            return reader.fault;
        }

        Rule handOver() {
            Rule read = rule;
            rule = new Rule();
            return read;
        }

        private void beginClause(int clause) {
            if (reader.word("look") == NONE) {
                reader.failAt(reader.place, Reader.CANNOT_STAND);
            } else if (clause >= Rule.MOST_CLAUSES) {
                reader.failAt(reader.place, Reader.TOO_MANY_CLAUSES);
            } else {
                reader.takeWord("look");
            }
        }

        private void readTest(int depth) {
            boolean joinsPart = false;
            boolean joinsFact = false;
            for (int i = 0; i < MOST_BYTES && reader.fault == 0; i++) {
                readFact(depth);
                if (joinsFact) {
                    rule.put(Rule.AND);
                }
                joinsFact = reader.takeWord("and");
                if (!joinsFact) {
                    if (joinsPart) {
                        rule.put(Rule.OR);
                    }
                    joinsPart = reader.takeWord("or");
                    if (!joinsPart) {
                        return;
                    }
                }
            }
        }

        private void readFact(int depth) {
            boolean brackets = reader.next() == '[';
            boolean denies = reader.word("not") == 0;
            if ((brackets || denies) && depth >= DEEPEST) {
                reader.failAt(reader.place, Reader.TOO_DEEP);
            } else if (brackets) {
                reader.take('[');
                readTest(depth + 1);
                reader.take(']');
            } else if (denies) {
                reader.takeWord("not");
                readFact(depth + 1);
                rule.put(Rule.NOT);
            } else {
                readSum();
                int sign = readSign();
                readSum();
                rule.put(sign);
            }
        }

        private int readSign() {
            int sign = comparison(reader.next(), reader.behind());
            if (sign == 0) {
                reader.failAt(reader.place, Reader.CANNOT_STAND);
            }
            countAt(reader.place);
            reader.pass(sign == Rule.AT_MOST || sign == Rule.AT_LEAST ? 2 : 1);
            return sign;
        }

        private void readSum() {
            int adds = 0;
            int multiplies = 0;
            for (int i = 0; i < MOST_BYTES && reader.fault == 0; i++) {
                readValue();
                if (multiplies != 0) {
                    rule.put(multiplies);
                }
                multiplies = multiplier(reader.next());
                if (multiplies == 0) {
                    if (adds != 0) {
                        rule.put(adds);
                    }
                    adds = adder(reader.next());
                    if (adds == 0) {
                        return;
                    }
                }
                reader.pass(1);
            }
        }

        private void readValue() {
            boolean isNumber = Reader.isDigit(reader.next());
            int from = reader.place;
            int word = reader.word(Rule.NAMED);
            if (isNumber) {
                rule.put(reader.number(0, 99999));
            } else if (word != NONE) {
                rule.put(Rule.FIRST_WORD - word);
                reader.pass(reader.wordSize());
            } else {
                reader.failAt(from, Reader.CANNOT_STAND);
            }
            countAt(from);
        }

        private void countAt(int where) {
            values++;
            if (values > MOST_VALUES) {
                reader.failAt(where, Reader.TOO_MANY_VALUES);
            }
        }

        private static int comparison(int sign, int behind) {
            switch (sign) {
                case '<':
                    return behind == '=' ? Rule.AT_MOST : Rule.LESS;
                case '=':
                    return Rule.EQUAL;
                case '>':
                    return behind == '=' ? Rule.AT_LEAST : Rule.MORE;
                default:
                    return 0;
            }
        }

        private static int multiplier(int sign) {
            switch (sign) {
                case '*':
                    return Rule.TIMES;
                case '/':
                    return Rule.OVER;
                case '%':
                    return Rule.REMAINDER;
                default:
                    return 0;
            }
        }

        private static int adder(int sign) {
            switch (sign) {
                case '+':
                    return Rule.PLUS;
                case '-':
                    return Rule.MINUS;
                default:
                    return 0;
            }
        }
    }
}
