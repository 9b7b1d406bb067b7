import java.util.ArrayList;
import java.util.List;
import java.util.Map;
import java.util.HashMap;
import java.util.TreeMap;
import java.math.BigInteger;

/**
 * The document once more, written plainly and apart from the program, to compare answers with:
 * texts are cut into tokens, RULES are trees, FAULTS are thrown, states are copied whole.
 */
final class Model {
    private static final class Fault extends RuntimeException {
        private static final long serialVersionUID = 1;
        final int number;

        Fault(int place, int kind) {
            number = 1 + 8 * place + kind;
        }
    }

    private record Token(char kind, String text, int place) {
    }

    private interface Sum {
        long of(Map<String, Long> words);
    }

    private interface Fact {
        boolean of(Map<String, Long> words);
    }

    private record Clause(Sum sum, Fact test) {
    }

    private record Name(int day, int seeker) {
    }

    private static final class Stone {
        int feet, hard, odds;
    }

    private static final class Seeker {
        int skill, patience, worth, shift;
    }

    private static final class Hill {
        int figure, notice, lost, tin = -1;
        List<Stone> stones = new ArrayList<>();
        List<Integer> things = new ArrayList<>();
        List<Seeker> seekers = new ArrayList<>();
        List<Integer> walkers = new ArrayList<>();
    }

    private static final class Days {
        int day, figure, tin = -1;
        int[] wear = {}, things = {}, carried = {}, found = {}, vain = {};
        boolean[][] tried = {};

        Days copy() {
            Days to = new Days();
            to.day = day;
            to.figure = figure;
            to.tin = tin;
            to.wear = wear.clone();
            to.things = things.clone();
            to.carried = carried.clone();
            to.found = found.clone();
            to.vain = vain.clone();
            to.tried = new boolean[tried.length][];
            for (int i = 0; i < tried.length; i++) {
                to.tried[i] = tried[i].clone();
            }
            return to;
        }
    }

    private static final class All {
        Hill hill;
        Days days = new Days();
        List<Days> acts = new ArrayList<>();
        List<Name> names = new ArrayList<>();
        int force = -1;
        int x;

        All copy() {
            All to = new All();
            to.hill = hill;
            to.days = days.copy();
            to.acts = new ArrayList<>(acts);
            to.names = new ArrayList<>(names);
            to.force = force;
            to.x = x;
            return to;
        }
    }

    private final List<Integer> tape = new ArrayList<>();
    private final List<List<Clause>> rules = new ArrayList<>();
    private final Map<Integer, All> images = new HashMap<>();
    private All all = new All();

    // ---- reading

    private List<Token> tokens = new ArrayList<>();
    private int at;
    private int counted;

    private void cut() {
        tokens = new ArrayList<>();
        at = 0;
        counted = 0;
        int i = 0;
        while (i < tape.size()) {
            int from = i;
            char c = (char) (int) tape.get(i);
            StringBuilder text = new StringBuilder();
            if (c == ' ') {
                i++;
                continue;
            }
            char kind = c >= 'a' && c <= 'z' ? 'w' : c >= '0' && c <= '9' ? 'n' : 's';
            do {
                text.append((char) (int) tape.get(i));
                i++;
                c = i < tape.size() ? (char) (int) tape.get(i) : 0;
            } while (kind == 'w' && c >= 'a' && c <= 'z' || kind == 'n' && c >= '0' && c <= '9');
            if (kind == 's' && c == '=' && (text.charAt(0) == '<' || text.charAt(0) == '>')) {
                text.append(c);
                i++;
            }
            tokens.add(new Token(kind, text.toString(), from));
        }
        tokens.add(new Token('e', "", tape.size()));
        tape.clear();
    }

    private Token look() {
        return tokens.get(at);
    }

    private boolean isNext(String text) {
        return look().text.equals(text);
    }

    private Fault cannotStand() {
        return new Fault(look().place, 0);
    }

    private int number(int least, int most) {
        Token token = look();
        if (token.kind != 'n') {
            throw cannotStand();
        }
        if (token.text.length() > 5 || Integer.parseInt(token.text) < least || Integer.parseInt(token.text) > most) {
            throw new Fault(token.place, 1);
        }
        at++;
        return Integer.parseInt(token.text);
    }

    private Hill readHill() {
        Hill hill = new Hill();
        int clauses = 0;
        while (true) {
            Token word = look();
            if (!List.of("hill", "stone", "tin", "thing", "seeker", "walker").contains(word.text)) {
                throw cannotStand();
            }
            clauses++;
            int kind = 4;
            if (clauses > 40 || word.text.equals("hill") == (clauses != 1)) {
                throw new Fault(word.place, kind);
            }
            at++;
            switch (word.text) {
                case "hill" -> {
                    hill.figure = number(0, 99);
                    hill.notice = number(1, 50);
                    hill.lost = number(0, 99);
                }
                case "stone" -> {
                    refuse(hill.stones.size() == 10, word.place);
                    Stone stone = new Stone();
                    stone.feet = number(0, 99);
                    stone.hard = number(1, 20);
                    stone.odds = number(0, 9);
                    hill.stones.add(stone);
                }
                case "tin" -> hill.tin = number(0, hill.stones.size() - 1);
                case "thing" -> {
                    refuse(hill.things.size() == 6, word.place);
                    hill.things.add(number(0, 99));
                }
                case "seeker" -> {
                    refuse(hill.seekers.size() == 4, word.place);
                    Seeker seeker = new Seeker();
                    seeker.skill = number(0, 9);
                    seeker.patience = number(1, 99);
                    seeker.worth = number(0, 99);
                    seeker.shift = number(0, 2);
                    hill.seekers.add(seeker);
                }
                default -> {
                    refuse(hill.walkers.size() == 8, word.place);
                    hill.walkers.add(number(0, 99));
                }
            }
            if (look().kind == 'e') {
                return hill;
            }
            pass(";");
        }
    }

    private static void refuse(boolean full, int place) {
        if (full) {
            throw new Fault(place, 4);
        }
    }

    private void pass(String text) {
        if (!isNext(text)) {
            throw cannotStand();
        }
        at++;
    }

    private List<Clause> readRule() {
        List<Clause> clauses = new ArrayList<>();
        while (true) {
            int place = look().place;
            pass("look");
            refuse(clauses.size() == 12, place);
            Sum sum = sum();
            Fact test = null;
            if (isNext("if")) {
                at++;
                test = test(0);
            }
            clauses.add(new Clause(sum, test));
            if (look().kind == 'e') {
                return clauses;
            }
            pass(";");
        }
    }

    private Fact test(int depth) {
        Fact left = part(depth);
        while (isNext("or")) {
            at++;
            Fact a = left;
            Fact b = part(depth);
            left = words -> a.of(words) || b.of(words);
        }
        return left;
    }

    private Fact part(int depth) {
        Fact left = fact(depth);
        while (isNext("and")) {
            at++;
            Fact a = left;
            Fact b = fact(depth);
            left = words -> a.of(words) && b.of(words);
        }
        return left;
    }

    private Fact fact(int depth) {
        if (isNext("not") || isNext("[")) {
            if (depth == 10) {
                throw new Fault(look().place, 2);
            }
            boolean not = isNext("not");
            at++;
            Fact inner = not ? fact(depth + 1) : test(depth + 1);
            if (not) {
                return words -> !inner.of(words);
            }
            pass("]");
            return inner;
        }
        Sum a = sum();
        String sign = look().text;
        if (!List.of("<", "<=", "=", ">=", ">").contains(sign)) {
            throw cannotStand();
        }
        countOne();
        at++;
        Sum b = sum();
        return words -> {
            int compared = Long.compare(a.of(words), b.of(words));
            return switch (sign) {
                case "<" -> compared < 0;
                case "<=" -> compared <= 0;
                case "=" -> compared == 0;
                case ">=" -> compared >= 0;
                default -> compared > 0;
            };
        };
    }

    private void countOne() {
        counted++;
        if (counted > 60) {
            throw new Fault(look().place, 3);
        }
    }

    private Sum sum() {
        Sum left = term();
        while (isNext("+") || isNext("-")) {
            boolean plus = isNext("+");
            at++;
            Sum a = left;
            Sum b = term();
            left = words -> plus ? a.of(words) + b.of(words) : a.of(words) - b.of(words);
        }
        return left;
    }

    private Sum term() {
        Sum left = value();
        while (isNext("*") || isNext("/") || isNext("%")) {
            char sign = look().text.charAt(0);
            at++;
            Sum a = left;
            Sum b = value();
            left = words -> {
                BigInteger x = BigInteger.valueOf(a.of(words));
                BigInteger y = BigInteger.valueOf(b.of(words));
                if (sign == '*') {
                    return x.multiply(y).longValue();
                }
                if (y.signum() == 0) {
                    return 0;
                }
                return sign == '/' ? x.divide(y).longValue() : x.remainder(y).longValue();
            };
        }
        return left;
    }

    private Sum value() {
        Token token = look();
        if (token.kind == 'n') {
            int number = number(0, 99999);
            at--;
            countOne();
            at++;
            return words -> number;
        }
        if (!List.of("seeker", "stone", "feet", "hard", "odds", "wear", "figure", "off", "minutes", "skill", "vain",
                "tried", "found", "day").contains(token.text)) {
            throw cannotStand();
        }
        countOne();
        at++;
        return words -> words.get(token.text);
    }

    // ---- days

    private Days begin(Hill hill) {
        Days days = new Days();
        int seekers = hill.seekers.size();
        int stones = hill.stones.size();
        days.figure = hill.figure;
        days.tin = hill.tin;
        days.wear = new int[stones];
        days.things = hill.things.stream().mapToInt(t -> t).toArray();
        days.carried = hill.seekers.stream().mapToInt(s -> s.worth).toArray();
        days.found = new int[seekers];
        java.util.Arrays.fill(days.found, -1);
        days.vain = new int[seekers];
        days.tried = new boolean[seekers][stones];
        return days;
    }

    private int minutes(Days days, int seeker, int stone) {
        int minutes = all.hill.stones.get(stone).hard - all.hill.seekers.get(seeker).skill - days.wear[stone] / 4;
        return minutes < 1 ? 1 : minutes;
    }

    private static int found(Days days) {
        int found = 0;
        for (int day : days.found) {
            found += day >= 0 ? 1 : 0;
        }
        return found;
    }

    private long rating(Days days, List<Clause> rule, int seeker, int stone) {
        Stone it = all.hill.stones.get(stone);
        int off = Math.abs(it.feet - days.figure);
        if (rule == null) {
            return -off;
        }
        Map<String, Long> words = new HashMap<>();
        words.put("seeker", (long) seeker);
        words.put("stone", (long) stone);
        words.put("feet", (long) it.feet);
        words.put("hard", (long) it.hard);
        words.put("odds", (long) it.odds);
        words.put("wear", (long) days.wear[stone]);
        words.put("figure", (long) days.figure);
        words.put("off", (long) off);
        words.put("minutes", (long) minutes(days, seeker, stone));
        words.put("skill", (long) all.hill.seekers.get(seeker).skill);
        words.put("vain", (long) days.vain[seeker]);
        words.put("tried", days.tried[seeker][stone] ? 1L : 0L);
        words.put("found", (long) found(days));
        words.put("day", (long) days.day);
        for (Clause clause : rule) {
            if (clause.test == null || clause.test.of(words)) {
                return clause.sum.of(words);
            }
        }
        return 0;
    }

    private List<Integer> looking(Days days, List<Clause> rule, int seeker) {
        List<Integer> order = new ArrayList<>();
        List<Long> ratings = new ArrayList<>();
        for (int stone = 0; stone < all.hill.stones.size(); stone++) {
            order.add(stone);
            ratings.add(rating(days, rule, seeker, stone));
        }
        order.sort((a, b) -> ratings.get(a).equals(ratings.get(b)) ? a - b : ratings.get(b).compareTo(ratings.get(a)));
        List<Integer> looked = new ArrayList<>();
        int left = all.hill.seekers.get(seeker).patience;
        for (int stone : order) {
            left -= minutes(days, seeker, stone);
            if (left < 0) {
                break;
            }
            looked.add(stone);
            if (stone == days.tin) {
                break;
            }
        }
        return looked;
    }

    private List<Integer> pass(Days days, List<Clause> rule, boolean drawn) {
        List<Integer> finders = new ArrayList<>();
        for (int seeker = 0; seeker < all.hill.seekers.size(); seeker++) {
            if (days.found[seeker] >= 0) {
                continue;
            }
            List<Integer> looked = looking(days, rule, seeker);
            for (int stone : looked) {
                days.wear[stone] = Math.min(99, days.wear[stone] + 1);
                days.tried[seeker][stone] = true;
            }
            if (days.tin < 0 || !looked.contains(days.tin)) {
                days.vain[seeker] = Math.min(99, days.vain[seeker] + 1);
                continue;
            }
            finders.add(seeker);
            days.found[seeker] = days.day;
            int most = -1;
            int place = -1;
            for (int thing = 0; thing < days.things.length; thing++) {
                if (days.things[thing] > most) {
                    most = days.things[thing];
                    place = thing;
                }
            }
            if (most > days.carried[seeker]) {
                days.things[place] = days.carried[seeker];
                days.carried[seeker] = most;
            }
            int to = days.tin + new int[] {0, 1, -1}[all.hill.seekers.get(seeker).shift];
            days.tin = Math.max(0, Math.min(all.hill.stones.size() - 1, to));
        }
        boolean walkers = drawn || all.hill.walkers.contains(days.day);
        if (walkers && days.tin >= 0 && days.wear[days.tin] >= all.hill.notice) {
            days.tin = -1;
        }
        days.day++;
        return finders;
    }

    private List<Clause> force() {
        return all.force < 0 ? null : rules.get(all.force);
    }

    private Days after(Days from, int n) {
        Days days = from.copy();
        for (int i = 0; i < n; i++) {
            pass(days, force(), false);
        }
        return days;
    }

    private boolean isStone(int stone) {
        return all.hill != null && stone >= 0 && stone < all.hill.stones.size();
    }

    private boolean isSeeker(int seeker) {
        return all.hill != null && seeker >= 0 && seeker < all.hill.seekers.size();
    }

    private boolean isAsked(int what) {
        return all.hill != null && (what == 0 || what == 1);
    }

    private void act() {
        all.acts.add(all.days.copy());
        if (all.acts.size() > 20) {
            all.acts.remove(0);
        }
    }

    // ---- the face

    int feed(int a, int b, int c, int d, int e) {
        if (tape.size() + 20 > 400) {
            return -1;
        }
        for (int number : new int[] {a, b, c, d, e}) {
            for (byte part : java.nio.ByteBuffer.allocate(4).putInt(number).array()) {
                tape.add(part & 255);
            }
        }
        return tape.size();
    }

    int end(int n) {
        if (n < 0 || n > tape.size()) {
            return -1;
        }
        tape.subList(n, tape.size()).clear();
        return n;
    }

    int hill() {
        try {
            cut();
            Hill hill = readHill();
            All fresh = new All();
            fresh.hill = hill;
            fresh.days = begin(hill);
            fresh.force = all.force;
            fresh.x = all.x;
            all = fresh;
            return hill.stones.size();
        } catch (Fault fault) {
            return -2 - fault.number;
        }
    }

    int rule() {
        if (rules.size() == 6) {
            return -1;
        }
        try {
            cut();
            rules.add(readRule());
            return rules.size() - 1;
        } catch (Fault fault) {
            return -2 - fault.number;
        }
    }

    int force(int rule) {
        if (rule < -1 || rule >= rules.size()) {
            return -2;
        }
        int was = all.force;
        all.force = rule;
        return was;
    }

    int stone(int stone, int what) {
        if (!isStone(stone) || what < 0 || what > 4) {
            return -1;
        }
        Stone it = all.hill.stones.get(stone);
        int bits = 0;
        for (int seeker = 0; seeker < all.days.tried.length; seeker++) {
            bits += all.days.tried[seeker][stone] ? 1 << seeker : 0;
        }
        return new int[] {it.feet, it.hard, it.odds, all.days.wear[stone], bits}[what];
    }

    int seeker(int seeker, int what) {
        if (!isSeeker(seeker) || what < 0 || what > 6) {
            return -2;
        }
        Seeker it = all.hill.seekers.get(seeker);
        int bits = 0;
        for (int stone = 0; stone < all.days.wear.length; stone++) {
            bits += all.days.tried[seeker][stone] ? 1 << stone : 0;
        }
        return new int[] {it.skill, it.patience, all.days.carried[seeker], it.shift, all.days.found[seeker],
            all.days.vain[seeker], bits}[what];
    }

    int thing(int thing) {
        return thing < 0 || thing >= all.days.things.length ? -1 : all.days.things[thing];
    }

    int day() {
        if (all.hill == null || all.days.day == 999) {
            return -1;
        }
        act();
        return pass(all.days, force(), false).size();
    }

    int hide(int stone) {
        if (!isStone(stone) || all.days.tin == stone) {
            return -2;
        }
        act();
        int was = all.days.tin;
        all.days.tin = stone;
        return was;
    }

    int rest(int stone) {
        if (!isStone(stone) || all.days.wear[stone] == 0) {
            return -1;
        }
        act();
        int was = all.days.wear[stone];
        all.days.wear[stone] = 0;
        return was;
    }

    int figure(int figure) {
        if (all.hill == null || figure < 0 || figure > 99 || all.days.figure == figure) {
            return -1;
        }
        act();
        int was = all.days.figure;
        all.days.figure = figure;
        return was;
    }

    int forget(int seeker) {
        if (!isSeeker(seeker) || all.days.found[seeker] < 0) {
            return -1;
        }
        act();
        int was = all.days.found[seeker];
        all.days.found[seeker] = -1;
        return was;
    }

    int undo() {
        if (all.acts.isEmpty()) {
            return -2;
        }
        all.days = all.acts.remove(all.acts.size() - 1).copy();
        return all.acts.size();
    }

    int ahead(int number, int n, int what) {
        boolean right = what == 0 || what == 1 && isStone(number) || what == 2 && isSeeker(number);
        if (all.hill == null || !right || n < 0 || n > 100) {
            return -2;
        }
        Days then = after(all.days, n);
        return what == 0 ? then.tin : what == 1 ? then.wear[number] : then.found[number];
    }

    int today(int seeker, int k) {
        if (!isSeeker(seeker) || k < -1) {
            return -3;
        }
        Days days = all.days.copy();
        days.found[seeker] = -1;
        List<Integer> looked = looking(days, force(), seeker);
        if (k >= 0) {
            return k < looked.size() ? looked.get(k) : -2;
        }
        return looked.stream().mapToInt(stone -> minutes(days, seeker, stone)).sum();
    }

    int first(int what) {
        if (!isAsked(what)) {
            return -1;
        }
        Days days = all.days.copy();
        for (int i = 0; i < 60; i++) {
            List<Integer> finders = pass(days, force(), false);
            if (!finders.isEmpty()) {
                return what == 0 ? finders.get(0) : days.day - 1;
            }
        }
        return -2;
    }

    int hiding(int n, int what) {
        if (!isAsked(what) || n < 1 || n > 60) {
            return -1;
        }
        int best = -2;
        int most = -2;
        int bestKey = -1;
        for (int stone = 0; stone < all.hill.stones.size(); stone++) {
            Days now = all.days.copy();
            now.tin = stone;
            Days then = after(now, n);
            int key = found(then) * 2 + (then.tin < 0 ? 0 : 1);
            if (key > bestKey) {
                bestKey = key;
                best = stone;
                most = found(then);
            }
        }
        return what == 0 ? best : most;
    }

    private List<Integer> order(int seeker) {
        List<Integer> order = new ArrayList<>();
        for (int stone = 0; stone < all.hill.stones.size(); stone++) {
            if (all.hill.stones.get(stone).odds != 0) {
                order.add(stone);
            }
        }
        order.sort((a, b) -> {
            int x = all.hill.stones.get(a).odds * minutes(all.days, seeker, b);
            int y = all.hill.stones.get(b).odds * minutes(all.days, seeker, a);
            return x != y ? y - x : a - b;
        });
        return order;
    }

    int order(int seeker, int k) {
        if (!isSeeker(seeker) || k < 0) {
            return -1;
        }
        List<Integer> order = order(seeker);
        return k < order.size() ? order.get(k) : -2;
    }

    private static int fraction(int above, int below, int part) {
        if (below == 0) {
            return part;
        }
        int measure = BigInteger.valueOf(above).gcd(BigInteger.valueOf(below)).intValue();
        return (part == 0 ? above : below) / measure;
    }

    int mean(int seeker, int part) {
        if (!isSeeker(seeker) || part < 0 || part > 1) {
            return -1;
        }
        int sum = 0;
        int odds = 0;
        int soFar = 0;
        for (int stone : order(seeker)) {
            soFar += minutes(all.days, seeker, stone);
            sum += soFar * all.hill.stones.get(stone).odds;
            odds += all.hill.stones.get(stone).odds;
        }
        return fraction(sum, odds, part);
    }

    int gone(int part) {
        if (!isAsked(part)) {
            return -1;
        }
        int odds = 0;
        int rest = 0;
        for (int stone = 0; stone < all.hill.stones.size(); stone++) {
            odds += all.hill.stones.get(stone).odds;
            rest += stone(stone, 4) == 0 ? all.hill.stones.get(stone).odds : 0;
        }
        return fraction(all.hill.lost * odds, all.hill.lost * odds + (100 - all.hill.lost) * rest, part);
    }

    int hint(int what) {
        if (!isAsked(what)) {
            return -1;
        }
        TreeMap<Integer, Integer> parts = new TreeMap<>();
        for (int feet = 1; feet < 100; feet++) {
            int limit = feet;
            int below = all.hill.stones.stream().filter(s -> s.feet < limit).mapToInt(s -> s.odds).sum();
            int rest = all.hill.stones.stream().filter(s -> s.feet >= limit).mapToInt(s -> s.odds).sum();
            parts.putIfAbsent(Math.max(below, rest), feet);
        }
        return what == 0 ? parts.firstEntry().getValue() : parts.firstKey();
    }

    int worth(int n) {
        if (all.hill == null || n < 0 || n > 100) {
            return -1;
        }
        return java.util.Arrays.stream(after(all.days, n).things).sum();
    }

    int wanders(int n) {
        if (all.hill == null || n < 1 || n > 100) {
            return -1;
        }
        java.util.Set<Integer> places = new java.util.HashSet<>();
        for (int i = 0; i <= n; i++) {
            places.add(after(all.days, i).tin);
        }
        places.remove(-1);
        return places.size();
    }

    int shows(int what) {
        if (!isAsked(what)) {
            return -1;
        }
        Days days = all.days.copy();
        for (int i = 0; i < 200; i++) {
            for (int stone = 0; stone < days.wear.length; stone++) {
                if (days.wear[stone] >= all.hill.notice) {
                    return what == 0 ? stone : days.day;
                }
            }
            pass(days, force(), false);
        }
        return -2;
    }

    int name(int n, int seeker) {
        if (n == -1) {
            all.names.clear();
            return 0;
        }
        if (n < 0 || n > 60 || !isSeeker(seeker) || all.names.size() == 10) {
            return -2;
        }
        all.names.add(new Name(n, seeker));
        return all.names.size();
    }

    /** By RULE (NONE, too) on which DAYS the SEEKERS wrote, of those RULES by which all in a list of NAMES did. */
    private TreeMap<Integer, int[]> such(List<Name> names) {
        TreeMap<Integer, int[]> such = new TreeMap<>();
        for (int rule = -1; rule < rules.size(); rule++) {
            Days days = begin(all.hill);
            for (int i = 0; i <= 60; i++) {
                pass(days, rule < 0 ? null : rules.get(rule), false);
            }
            if (names.stream().allMatch(name -> days.found[name.seeker] == name.day)) {
                such.put(rule, days.found);
            }
        }
        return such;
    }

    int ruled(int what) {
        if (!isAsked(what)) {
            return -3;
        }
        TreeMap<Integer, int[]> such = such(all.names);
        return what == 0 ? such.size() : such.isEmpty() ? -2 : such.firstKey();
    }

    int ask(int what) {
        if (!isAsked(what)) {
            return -1;
        }
        TreeMap<Integer, int[]> such = such(all.names);
        int best = -2;
        int fewest = -2;
        for (int seeker = 0; seeker < all.hill.seekers.size() && !such.isEmpty(); seeker++) {
            Map<Integer, Integer> groups = new HashMap<>();
            for (int[] found : such.values()) {
                groups.merge(found[seeker], 1, Integer::sum);
            }
            int alike = java.util.Collections.max(groups.values());
            if (best < 0 || alike < fewest) {
                best = seeker;
                fewest = alike;
            }
        }
        return what == 0 ? best : fewest;
    }

    int forged() {
        if (all.hill == null) {
            return -1;
        }
        int bits = 0;
        for (int name = 0; name < all.names.size(); name++) {
            bits += such(List.of(all.names.get(name))).isEmpty() ? 1 << name : 0;
        }
        return bits;
    }

    int seed(int x) {
        if (x < 0) {
            return -1;
        }
        int was = all.x;
        all.x = x;
        return was;
    }

    int years(int m, int n, int p, int what) {
        if (!isAsked(what) || m < 1 || m > 10 || n < 1 || n > 60 || p < 0 || p > 100) {
            return -1;
        }
        BigInteger x = BigInteger.valueOf(all.x);
        int gone = 0;
        int found = 0;
        for (int i = 0; i < m; i++) {
            Days days = all.days.copy();
            for (int j = 0; j < n; j++) {
                x = x.multiply(BigInteger.valueOf(1103515245)).add(BigInteger.valueOf(12345));
                x = x.mod(BigInteger.valueOf(2147483648L));
                pass(days, force(), x.intValue() / 65536 % 100 < p);
            }
            gone += days.tin < 0 ? 1 : 0;
            found += found(days) - found(all.days);
        }
        return what == 0 ? gone : found;
    }

    int count(int what) {
        Hill hill = all.hill == null ? new Hill() : all.hill;
        int bits = 0;
        for (int seeker = 0; seeker < all.days.found.length; seeker++) {
            bits += all.days.found[seeker] < 0 ? 0 : 1 << seeker;
        }
        int[] counts = {all.days.figure, hill.notice, hill.lost, hill.stones.size(), hill.things.size(),
            hill.seekers.size(), rules.size(), all.force, all.days.day, all.days.tin, bits,
            hill.walkers.contains(all.days.day) ? 1 : 0, all.names.size(), all.acts.size(), all.x, tape.size()};
        return what < 0 || what >= counts.length ? -1 : counts[what];
    }

    int image(int k) {
        if (k < 0 || k > 3) {
            return -1;
        }
        images.put(k, all.copy());
        return all.days.day;
    }

    int back(int k) {
        if (!images.containsKey(k)) {
            return -1;
        }
        all = images.get(k).copy();
        return all.days.day;
    }
}
