/** The edges of NAMES, RULED, ASK, FORGED, of x and of YEARS (Terms III; promises 27 to 32). */
public final class NamesBoundsTest {
    /** Each looks at one STONE a DAY; the tin is behind STONE 1. */
    private static final String HILL = "hill 0 50 0;stone 0 20 1;stone 50 20 1;tin 1;seeker 0 20 0 0;seeker 0 20 0 0";

    private NamesBoundsTest() {
    }

    public static void main(String[] args) {
        tenNames();
        namesToDaySixty();
        ruledNoneAhead();
        ruledTheFirst();
        ruledFromTheBegin();
        askUpToDaySixty();
        askOfSeveralTheLeast();
        askNobody();
        forgedEachAlone();
        seedBounds();
        drawsGoRound();
        drawsBelow();
        yearsBounds();
        yearsFromNowOn();
        yearsFound();
        Check.done();
    }

    private static TinWall named(String hill, int[][] names, String... rules) {
        TinWall wall = Check.told(hill, rules);
        for (int i = 0; i < names.length; i++) {
            Check.is("name", wall.name(names[i][0], names[i][1]), i + 1);
        }
        return wall;
    }

    private static void ruled(TinWall wall, String what, int many, int first) {
        Check.is("how many " + what, wall.ruled(0), many);
        Check.is("the first " + what, wall.ruled(1), first);
    }

    private static void asked(TinWall wall, String what, int seeker, int many) {
        Check.is("whom to ask " + what, wall.ask(0), seeker);
        Check.is("how many alike " + what, wall.ask(1), many);
    }

    private static String from(int day) {
        return "look 1 if stone=1 and day>=" + day;
    }

    // ---- NAMES

    private static void tenNames() {
        TinWall wall = Check.told(HILL);
        for (int i = 1; i <= 10; i++) {
            Check.is("a NAME", wall.name(i, i % 2), i);
            Check.is("NAMES", wall.count(12), i);
        }
        Check.is("an eleventh", wall.name(5, 0), -2);
        Check.is("ten still", wall.count(12), 10);
        Check.is("none then", wall.name(-1, 0), 0);
        Check.is("none", wall.count(12), 0);
        Check.is("none again", wall.name(-1, -5), 0);
        Check.is("a first one", wall.name(0, 0), 1);
    }

    private static void namesToDaySixty() {
        for (int n : new int[] {0, 1, 59, 60}) {
            Check.is("on DAY " + n, Check.told(HILL).name(n, 0), 1);
        }
        for (int n : new int[] {61, 99, -2, Integer.MAX_VALUE, Integer.MIN_VALUE}) {
            Check.is("on DAY " + n, Check.told(HILL).name(n, 0), -2);
        }
        for (int seeker : new int[] {-1, 2, 3, 4, Integer.MAX_VALUE, Integer.MIN_VALUE}) {
            Check.is("by " + seeker, Check.told(HILL).name(0, seeker), -2);
            Check.is("none, whoever is told: " + seeker, Check.told(HILL).name(-1, seeker), 0);
        }
        for (int day : new int[] {0, 1, 59, 60}) {
            ruled(named(HILL, new int[][] {{day, 1}}, from(day)), "on DAY " + day, 1, 0);
            Check.is("as they wrote on DAY " + day, named(HILL, new int[][] {{day, 1}}, from(day)).forged(), 0);
        }
        ruled(named(HILL, new int[][] {{60, 1}}, from(61)), "on DAY 61", 0, -2);
        Check.is("DAY 61 is no DAY of NAMES", named(HILL, new int[][] {{60, 1}}, from(61)).forged(), 1);
    }

    // ---- RULED

    private static void ruledNoneAhead() {
        TinWall wall = Check.told(HILL.replace("hill 0", "hill 50"), "look 0", "look stone", "look stone");
        ruled(wall, "without NAMES", 4, -1);
        wall.name(0, 0);
        ruled(wall, "by none, and 1, and 2", 3, -1);
        wall.name(0, 1);
        ruled(wall, "together", 3, -1);
        ruled(named(HILL, new int[][] {{0, 0}}), "by none alone, where it is not so", 0, -2);
        ruled(Check.told(HILL), "without RULES, without NAMES", 1, -1);
    }

    private static void ruledTheFirst() {
        TinWall wall = named(HILL, new int[][] {{0, 0}}, "look 1", "look 0", from(1), from(0), "look stone", "look 7");
        ruled(wall, "by 3 and 4", 2, 3);
        wall.name(1, 1);
        ruled(wall, "not together", 0, -2);
        TinWall last = named(HILL, new int[][] {{9, 0}}, from(0), from(1), from(2), from(3), from(4), from(9));
        ruled(last, "by the sixth", 1, 5);
        last.name(9, 0);
        ruled(last, "told twice", 1, 5);
        last.name(8, 0);
        ruled(last, "on two DAYS", 0, -2);
    }

    /** Each RULE goes by another of the things that change; SEEKER 0 FINDS it by them on the DAYS beneath (-1: not). */
    private static final String[] CHANGING = {"look 1 if stone=1 and vain>=2", "look 1-tried if stone<3;look 0-1 if stone=3",
        "look 1 if stone=2;look 1 if stone=1 and wear=0 and day>=5", "look 0-off", "look 1 if stone=1 and found=0 and day>=7",
        "look 1 if stone=1 and minutes=8 and day>=8"};
    private static final int[] WRITTEN = {2, 1, 5, -1, 7, 8};

    /** Not by what is now: VAIN, TRIED, WEAR, FIGURE, who has FOUND it, the DAY, where it is, which RULE is IN FORCE. */
    private static void ruledFromTheBegin() {
        String hill = "hill 0 50 0;stone 0 8 1;stone 50 8 1;stone 60 8 1;stone 99 1 1;tin 1;thing 7;seeker 0 8 0 0;walker 3";
        for (int rule = 0; rule < CHANGING.length; rule++) {
            TinWall fresh = Check.told(hill, CHANGING);
            TinWall used = Check.told(hill, CHANGING);
            fresh.force(rule);
            Check.is("who FINDS it by RULE " + rule, fresh.ahead(0, 61, 2), WRITTEN[rule]);
            used.force(2);
            Check.days(used, 12);
            Check.is("found", used.count(10), 1);
            used.figure(50);
            used.hide(0);
            used.force(rule);
            if (WRITTEN[rule] >= 0) {
                fresh.name(WRITTEN[rule], 0);
                used.name(WRITTEN[rule], 0);
                ruled(fresh, "by RULE " + rule, 1, rule);
                ruled(used, "by RULE " + rule + ", whatever has been", 1, rule);
                Check.is("forged, whatever has been", used.forged(), 0);
            }
            Check.is("ask, whatever has been", used.ask(0), fresh.ask(0));
            Check.is("asked, whatever has been", used.ask(1), fresh.ask(1));
        }
        TinWall figure = Check.told(HILL, "look 0-off");
        figure.figure(50);
        figure.name(0, 0);
        ruled(figure, "by FIGURE as told", 0, -2);
        Check.is("nor by none", figure.forged(), 1);
        TinWall told = Check.told(HILL.replace("hill 0", "hill 50"), "look 0-off");
        told.figure(0);
        told.name(0, 0);
        ruled(told, "by FIGURE as told, whatever it is", 2, -1);
        TinWall worth = Check.told("hill 0 1 0;stone 0 1 1;stone 0 9 1;tin 0;seeker 0 1 0 1;seeker 0 9 0 0;walker 0", "look 1");
        worth.day();
        worth.name(0, 1);
        ruled(worth, "nobody comes there in time", 0, -2);
    }

    // ---- ASK

    private static void askUpToDaySixty() {
        asked(Check.told(HILL, from(60), from(61), from(62)), "DAY 60, later or never", 0, 3);
        asked(Check.told(HILL, from(60), from(59), from(0)), "never, 60, 59 and 0", 0, 1);
        asked(Check.told(HILL, from(61), from(62), from(99)), "never in these", 0, 4);
    }

    private static void askOfSeveralTheLeast() {
        asked(Check.told(HILL), "without RULES", 0, 1);
        asked(Check.told(HILL, from(0), from(1)), "both part alike", 0, 1);
        String second = "look 1 if stone=1 and day>=5 and seeker=1";
        asked(Check.told(HILL, second), "the second parts", 1, 1);
        asked(Check.told(HILL, second, second, "look 1"), "two and two", 1, 2);
        asked(Check.told(HILL, "look 1", "look 2"), "nobody parts: the least", 0, 3);
        String four = HILL + ";seeker 0 20 0 0;seeker 0 20 0 0";
        asked(Check.told(four, "look 1 if stone=1 and seeker=3"), "the last of four", 3, 1);
        asked(named(HILL, new int[][] {{5, 1}}, second, from(5), "look 1"), "of those that are so", 0, 1);
        asked(named(HILL, new int[][] {{5, 0}}, second, from(5), "look 1"), "one is so", 0, 1);
        asked(Check.told(HILL, from(0), from(0), from(1), from(1), from(2), from(2)), "never once, the others twice", 0, 2);
    }

    private static void askNobody() {
        asked(named(HILL, new int[][] {{7, 0}}, from(1)), "when no RULE is so", -2, -2);
        asked(Check.told("hill 0 1 0;stone 0 1 1;tin 0", "look 1"), "without SEEKERS", -2, -2);
        asked(Check.told("hill 0 1 0;seeker 0 1 1 1", "look 1"), "without STONES", 0, 2);
    }

    // ---- FORGED

    private static void forgedEachAlone() {
        TinWall wall = Check.told(HILL, from(1), from(2));
        Check.is("no NAMES", wall.forged(), 0);
        for (int i = 0; i < 10; i++) {
            wall.name(i < 5 ? i : 60 - i, i % 2);
        }
        Check.is("all but DAYS 1 and 2", wall.forged(), 1023 - 2 - 4);
        ruled(wall, "of all of them", 0, -2);
        TinWall same = named(HILL, new int[][] {{1, 0}, {2, 0}, {1, 0}}, from(1), from(2));
        Check.is("each by another RULE", same.forged(), 0);
        TinWall none = named(HILL.replace("hill 0", "hill 50"), new int[][] {{0, 0}, {0, 1}, {1, 1}});
        Check.is("by none", none.forged(), 4);
        Check.is("without a HILL", new TinWall().forged(), -1);
    }

    // ---- x and DRAWS

    private static void seedBounds() {
        TinWall wall = new TinWall();
        Check.is("0 at first", wall.count(14), 0);
        Check.is("the greatest", wall.seed(Integer.MAX_VALUE), 0);
        Check.is("below 0", wall.seed(-1), -1);
        Check.is("the least", wall.seed(Integer.MIN_VALUE), -1);
        Check.is("the greatest still", wall.seed(0), Integer.MAX_VALUE);
        Check.is("0", wall.seed(1), 0);
        Check.is("1", wall.count(14), 1);
    }

    /** One STONE, WORN on each DAY: it is GONE when walkers come. */
    private static final String ONE = "hill 0 1 0;stone 0 1 1;tin 0;seeker 0 1 0 0";

    /** The first DRAW from x on, mod 100: the least p below which it is, less 1. */
    private static void drawn(int x, int due) {
        TinWall wall = Check.told(ONE);
        wall.seed(x);
        Check.is("a DRAW of " + due + " is not below " + due, wall.years(1, 1, due, 0), 0);
        Check.is("a DRAW of " + due + " is below " + (due + 1), wall.years(1, 1, due + 1, 0), 1);
        Check.is("x as it was", wall.count(14), x);
    }

    /** By hand: (x * 1103515245 + 12345) mod 2147483648, by 65536, mod 100. */
    private static void drawsGoRound() {
        for (int x : new int[] {0, 1, 2, 12345, 65535, 65536, 1103527590, 1073741824, 2147483646, 2147483647}) {
            java.math.BigInteger next = java.math.BigInteger.valueOf(x).multiply(java.math.BigInteger.valueOf(1103515245));
            next = next.add(java.math.BigInteger.valueOf(12345)).mod(java.math.BigInteger.valueOf(2147483648L));
            drawn(x, next.divide(java.math.BigInteger.valueOf(65536)).mod(java.math.BigInteger.valueOf(100)).intValue());
        }
        drawn(0, 0);
        drawn(1, 38);
        drawn(2147483647, 29);
    }

    private static void drawsBelow() {
        TinWall wall = Check.told(ONE);
        Check.is("never below 0", wall.years(10, 60, 0, 0), 0);
        Check.is("always below 100", wall.years(10, 1, 100, 0), 10);
        Check.is("0 is below 1", wall.years(1, 1, 1, 0), 1);
        for (int x = 0; x < 3000; x += 100) {
            wall.seed(x);
            Check.is("below 100 from " + x, wall.years(1, 1, 100, 0), 1);
        }
    }

    // ---- YEARS

    private static void yearsBounds() {
        TinWall wall = Check.told(ONE);
        Check.is("once, a DAY", wall.years(1, 1, 100, 0), 1);
        Check.is("ten times, 60 DAYS", wall.years(10, 60, 100, 0), 10);
        int[][] wrong = {{0, 1, 0}, {11, 1, 0}, {1, 0, 0}, {1, 61, 0}, {1, 1, -1}, {1, 1, 101}, {-1, 1, 0}, {1, -1, 0}};
        for (int[] w : wrong) {
            Check.is("years " + w[0] + " " + w[1] + " " + w[2], wall.years(w[0], w[1], w[2], 0), -1);
            Check.is("found in years " + w[0] + " " + w[1] + " " + w[2], wall.years(w[0], w[1], w[2], 1), -1);
        }
        Check.is("what 2", wall.years(1, 1, 0, 2), -1);
        Check.is("what -1", wall.years(1, 1, 0, -1), -1);
        TinWall late = Check.told(HILL, from(59), from(60));
        late.force(0);
        Check.is("on the 60th DAY both", late.years(1, 60, 0, 1), 2);
        Check.is("ten times", late.years(10, 60, 0, 1), 20);
        Check.is("not in 59", late.years(10, 59, 0, 1), 0);
        late.force(1);
        Check.is("nor on the 61st", late.years(10, 60, 0, 1), 0);
        late.day();
        Check.is("but from DAY 1 on", late.years(1, 60, 0, 1), 2);
    }

    private static void yearsFromNowOn() {
        TinWall gone = Check.told("hill 0 1 0;stone 0 1 1");
        Check.is("GONE as it is", gone.years(10, 1, 0, 0), 10);
        gone.hide(0);
        Check.is("not WORN, walkers see nothing", gone.years(10, 60, 100, 0), 0);
        TinWall told = Check.told(ONE + ";walker 3;walker 99");
        Check.is("as told, in four DAYS", told.years(2, 4, 0, 0), 2);
        Check.is("not in three", told.years(2, 3, 0, 0), 0);
        Check.days(told, 3);
        Check.is("on this DAY", told.years(2, 1, 0, 0), 2);
        told.day();
        Check.is("GONE now", told.years(3, 1, 0, 0), 3);
        told.hide(0);
        Check.is("a new one, no walkers any more", told.years(3, 60, 0, 0), 0);
        TinWall worn = Check.told("hill 0 3 0;stone 0 1 1;stone 9 1 1;tin 0;seeker 0 1 0 0;seeker 0 1 0 0");
        Check.is("WEAR 2 of NOTICE 3", worn.years(1, 60, 100, 0), 0);
        worn.day();
        Check.is("both have it: WEAR stays", worn.years(1, 60, 100, 0), 0);
        worn.forget(1);
        Check.is("once more", worn.years(1, 1, 100, 0), 1);
    }

    private static void yearsFound() {
        TinWall wall = Check.told("hill 0 9 0;stone 0 1 1;tin 0" + ";seeker 0 1 0 0".repeat(4));
        Check.is("all four, ten times", wall.years(10, 1, 0, 1), 40);
        wall.day();
        Check.is("nobody any more", wall.years(10, 60, 0, 1), 0);
        wall.forget(2);
        Check.is("one again", wall.years(10, 60, 0, 1), 10);
        TinWall none = Check.told("hill 0 9 0;stone 0 1 1;tin 0");
        Check.is("without SEEKERS", none.years(10, 60, 100, 1), 0);
        Check.is("nor is it GONE", none.years(10, 60, 100, 0), 0);
        TinWall bare = Check.told("hill 0 9 0");
        Check.is("on a bare HILL it is GONE", bare.years(4, 1, 0, 0), 4);
    }
}
