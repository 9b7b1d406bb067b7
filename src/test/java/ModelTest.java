/** Runs of drawn calls: TinWall answers as the Model does. The draws are always the same. */
public final class ModelTest {
    private static final int RUNS = 400;
    /** A text that is told makes up to 22 calls, and an object has but 512. */
    private static final int CALLS = 480;
    private static final String[] WORDS = {"seeker", "stone", "feet", "hard", "odds", "wear", "figure", "off", "minutes",
        "skill", "vain", "tried", "found", "day"};

    private static long drawn;

    private ModelTest() {
    }

    public static void main(String[] args) {
        for (int run = 0; run < RUNS; run++) {
            drawn = 7919L * run + 17;
            new ModelTest().run(run);
        }
        Check.done();
    }

    private final TinWall wall = new TinWall();
    private final Model model = new Model();
    private int calls = 0;

    private static int draw(int below) {
        drawn = drawn * 6364136223846793005L + 1442695040888963407L;
        return (int) ((drawn >>> 33) % below);
    }

    /** Most often within bounds, now and then at or beyond them, or far off. */
    private static int near(int least, int most) {
        switch (draw(24)) {
            case 0:
                return least - 1;
            case 1:
                return most + 1;
            case 2:
                return least;
            case 3:
                return most;
            case 4:
                return new int[] {Integer.MIN_VALUE, Integer.MAX_VALUE, -2, -3, 65536}[draw(5)];
            default:
                return least + draw(most - least + 1);
        }
    }

    private void run(int run) {
        boolean wild = run % 5 == 0;
        if (!wild) {
            tell(hill(run % 3 == 0), true);
            for (int i = draw(7); i > 0; i--) {
                tell(rule(), false);
            }
            int rule = near(-1, 5);
            is("force", wall.force(rule), model.force(rule), rule);
        }
        while (calls < CALLS) {
            step(wild);
        }
    }

    private void is(String call, long got, long want, int... with) {
        calls++;
        StringBuilder text = new StringBuilder(call);
        for (int i = 0; i < with.length; i++) {
            text.append(' ').append(with[i]);
        }
        Check.is(text.toString(), got, want);
    }

    private void tell(String text, boolean hill) {
        for (int from = 0; from < text.length(); from += 20) {
            int[] w = new int[5];
            for (int i = 0; i < 5; i++) {
                w[i] = Check.word(text, from + 4 * i);
            }
            is("feed", wall.feed(w[0], w[1], w[2], w[3], w[4]), model.feed(w[0], w[1], w[2], w[3], w[4]), w);
        }
        is("end", wall.end(text.length()), model.end(text.length()), text.length());
        if (hill) {
            is("hill " + text, wall.hill(), model.hill());
        } else {
            is("rule " + text, wall.rule(), model.rule());
        }
    }

    private String hill(boolean small) {
        StringBuilder text = new StringBuilder("hill " + draw(100) + " " + (1 + draw(small ? 4 : 50)) + " " + draw(100));
        int stones = small ? draw(4) : 1 + draw(10);
        for (int i = 0; i < stones; i++) {
            text.append(";stone " + draw(draw(2) == 0 ? 100 : 5) + " " + (1 + draw(20)) + " " + draw(draw(2) == 0 ? 10 : 2));
        }
        if (stones > 0 && draw(8) > 0) {
            text.append("; tin " + draw(stones));
        }
        for (int i = draw(7); i > 0; i--) {
            text.append(";thing " + draw(100));
        }
        for (int i = draw(5); i > 0; i--) {
            text.append(";seeker " + draw(10) + " " + (1 + draw(draw(3) == 0 ? 99 : 15)) + " " + draw(100) + " " + draw(3));
        }
        for (int i = draw(4); i > 0; i--) {
            text.append(";walker " + draw(draw(2) == 0 ? 5 : 100));
        }
        return spoiled(text);
    }

    private String rule() {
        StringBuilder text = new StringBuilder();
        for (int i = draw(4); i >= 0; i--) {
            text.append("look ").append(sum());
            if (draw(3) > 0) {
                text.append(" if ").append(test(draw(3)));
            }
            text.append(i > 0 ? ";" : "");
        }
        return spoiled(text);
    }

    private String test(int depth) {
        StringBuilder text = new StringBuilder(fact(depth));
        while (draw(3) == 0) {
            text.append(draw(2) == 0 ? " and " : " or ").append(fact(depth));
        }
        return text.toString();
    }

    private String fact(int depth) {
        if (depth > 0 && draw(3) == 0) {
            return "not " + fact(depth - 1);
        }
        if (depth > 0 && draw(2) == 0) {
            return "[" + test(depth - 1) + "]";
        }
        return sum() + new String[] {"<", "<=", "=", ">=", ">", " < "}[draw(6)] + sum();
    }

    private String sum() {
        StringBuilder text = new StringBuilder(value());
        while (draw(2) == 0) {
            text.append("+-*/%*".charAt(draw(6))).append(value());
        }
        return text.toString();
    }

    private String value() {
        return draw(3) == 0 ? "" + draw(draw(4) == 0 ? 100000 : 8) : WORDS[draw(WORDS.length)];
    }

    /** Some texts get a wrong byte, lose one, or have one twice; none is longer than the TAPE. */
    private static String spoiled(StringBuilder text) {
        if (draw(4) == 0) {
            int at = draw(text.length());
            switch (draw(3)) {
                case 0:
                    text.setCharAt(at, ";[]<=> 0a9x+".charAt(draw(12)));
                    break;
                case 1:
                    text.deleteCharAt(at);
                    break;
                default:
                    text.insert(at, text.charAt(at));
                    break;
            }
        }
        if (text.length() > 400) {
            text.setLength(400);
        }
        return text.toString();
    }

    private void step(boolean wild) {
        int a = near(0, 3);
        int b = near(0, 9);
        switch (draw(wild ? 44 : 40)) {
            case 0, 1, 2, 3, 4 -> is("day", wall.day(), model.day());
            case 5 -> is("hide", wall.hide(b), model.hide(b), b);
            case 6 -> is("rest", wall.rest(b), model.rest(b), b);
            case 7 -> {
                int figure = near(0, 99);
                is("figure", wall.figure(figure), model.figure(figure), figure);
            }
            case 8, 9 -> is("forget", wall.forget(a), model.forget(a), a);
            case 10, 11 -> is("undo", wall.undo(), model.undo());
            case 12 -> {
                int n = near(0, 100);
                int what = near(0, 2);
                is("ahead", wall.ahead(b, n, what), model.ahead(b, n, what), b, n, what);
            }
            case 13 -> {
                int k = near(-1, 9);
                is("today", wall.today(a, k), model.today(a, k), a, k);
            }
            case 14 -> {
                int what = near(0, 1);
                is("first", wall.first(what), model.first(what), what);
            }
            case 15 -> {
                int n = near(1, draw(4) == 0 ? 60 : 9);
                int what = near(0, 1);
                is("hiding", wall.hiding(n, what), model.hiding(n, what), n, what);
            }
            case 16 -> is("order", wall.order(a, b), model.order(a, b), a, b);
            case 17 -> {
                int part = near(0, 1);
                is("mean", wall.mean(a, part), model.mean(a, part), a, part);
            }
            case 18 -> {
                int part = near(0, 1);
                is("gone", wall.gone(part), model.gone(part), part);
            }
            case 19 -> {
                int what = near(0, 1);
                is("hint", wall.hint(what), model.hint(what), what);
            }
            case 20 -> {
                int n = near(0, 100);
                is("worth", wall.worth(n), model.worth(n), n);
            }
            case 21 -> {
                int n = near(1, draw(20) == 0 ? 100 : 9);
                is("wanders", wall.wanders(n), model.wanders(n), n);
            }
            case 22 -> {
                int what = near(0, 1);
                is("shows", wall.shows(what), model.shows(what), what);
            }
            case 23, 24 -> {
                int n = draw(9) == 0 ? -1 : near(0, draw(5) == 0 ? 60 : 2);
                is("name", wall.name(n, a), model.name(n, a), n, a);
            }
            case 25 -> {
                int what = near(0, 1);
                is("ruled", wall.ruled(what), model.ruled(what), what);
                is("ask", wall.ask(what), model.ask(what), what);
            }
            case 26 -> is("forged", wall.forged(), model.forged());
            case 27 -> {
                int x = near(0, Integer.MAX_VALUE - 1);
                is("seed", wall.seed(x), model.seed(x), x);
            }
            case 28 -> {
                int m = near(1, 3);
                int n = near(1, draw(5) == 0 ? 60 : 9);
                int p = near(0, 100);
                int what = near(0, 1);
                is("years", wall.years(m, n, p, what), model.years(m, n, p, what), m, n, p, what);
            }
            case 29 -> is("image", wall.image(a), model.image(a), a);
            case 30 -> is("back", wall.back(a), model.back(a), a);
            case 31 -> {
                int rule = near(-1, 5);
                is("force", wall.force(rule), model.force(rule), rule);
            }
            case 32, 33 -> {
                int what = near(0, 15);
                is("count", wall.count(what), model.count(what), what);
            }
            case 34, 35 -> {
                int what = near(0, 4);
                is("stone", wall.stone(b, what), model.stone(b, what), b, what);
            }
            case 36, 37 -> {
                int what = near(0, 6);
                is("seeker", wall.seeker(a, what), model.seeker(a, what), a, what);
            }
            case 38 -> is("thing", wall.thing(b), model.thing(b), b);
            case 39, 40 -> tell(rule(), false);
            default -> tell(hill(draw(2) == 0), true);
        }
    }
}
