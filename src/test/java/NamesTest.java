/** Promises 27 to 30: NAMES, RULED, ASK, FORGED. */
public final class NamesTest {
    /** One look a DAY is all that their PATIENCE lets them have. */
    private static final String HILL = "hill 0 50 0;stone 0 20 1;stone 50 20 1;stone 99 20 1;tin 1;seeker 0 20 0 0;seeker 0 20 0 0";
    private static final String[] RULES = {"look stone", "look 1 if stone=1", "look 1 if stone=1 and day>=3",
        "look 1 if stone=1 and day>=60", "look 1 if stone=1 and seeker=1"};

    private NamesTest() {
    }

    public static void main(String[] args) {
        names();
        ruled();
        asTheTextToldIt();
        ask();
        forged();
        wrongAsked();
        Check.done();
    }

    private static void names() {
        TinWall wall = Check.told(HILL);
        Check.is("name 60", wall.name(60, 1), 1);
        Check.is("name 0", wall.name(0, 0), 2);
        Check.is("name 61", wall.name(61, 0), -2);
        Check.is("name -2", wall.name(-2, 0), -2);
        Check.is("of no SEEKER", wall.name(5, 2), -2);
        Check.is("of SEEKER -1", wall.name(5, -1), -2);
        Check.is("names", wall.count(12), 2);
        for (int i = 3; i <= 10; i++) {
            Check.is("name as before", wall.name(0, 0), i);
        }
        Check.is("an eleventh", wall.name(0, 0), -2);
        Check.is("ten", wall.count(12), 10);
        Check.is("none then, of no SEEKER, too", wall.name(-1, 99), 0);
        Check.is("no names", wall.count(12), 0);
        Check.is("the first again", wall.name(7, 1), 1);
        TinWall none = new TinWall();
        Check.is("none without a HILL", none.name(-1, 0), 0);
        Check.is("name without a HILL", none.name(0, 0), -2);
    }

    private static void isRuled(TinWall wall, String what, int many, int first) {
        Check.is("how many " + what, wall.ruled(0), many);
        Check.is("the first " + what, wall.ruled(1), first);
    }

    private static void ruled() {
        TinWall wall = Check.told(HILL, RULES);
        isRuled(wall, "without NAMES", 6, -1);
        wall.name(0, 0);
        isRuled(wall, "DAY 0 of 0", 1, 1);
        wall.name(0, 1);
        isRuled(wall, "DAY 0 of both", 1, 1);
        wall.name(-1, 0);
        wall.name(0, 1);
        isRuled(wall, "DAY 0 of 1", 2, 1);
        wall.name(3, 0);
        isRuled(wall, "DAY 0 of 1, DAY 3 of 0", 0, -2);
        wall.name(-1, 0);
        wall.name(60, 0);
        isRuled(wall, "the last DAY", 1, 3);
        wall.name(-1, 0);
        wall.name(59, 0);
        isRuled(wall, "none such", 0, -2);
        TinWall nearest = Check.told(HILL.replace("hill 0", "hill 50"), "look 1");
        Check.is("a faulty RULE", Check.rule(nearest, "look stone=1"), Check.fault(10, 0));
        nearest.name(0, 1);
        isRuled(nearest, "by none", 1, -1);
        TinWall bare = Check.told("hill 0 1 0", "look 1");
        isRuled(bare, "of a bare HILL", 2, -1);
    }

    private static void asTheTextToldIt() {
        TinWall wall = Check.told(HILL.replace("seeker 0 20 0 0;", "walker 0;walker 2;thing 9;seeker 0 20 0 0;"), RULES);
        wall.force(3);
        wall.figure(50);
        wall.hide(0);
        wall.day();
        wall.day();
        wall.rest(0);
        wall.name(3, 0);
        isRuled(wall, "whatever was done", 1, 2);
        Check.is("ask", wall.ask(0), 0);
        Check.is("forged", wall.forged(), 0);
        Check.is("nothing changes", wall.count(8) * 100 + wall.count(0), 250);
        TinWall seen = Check.told("hill 50 1 0;stone 50 1 1;tin 0;seeker 0 1 0 0;seeker 0 1 0 0;walker 0", "look 1");
        seen.name(0, 1);
        isRuled(seen, "ahead of the walkers", 2, -1);
        TinWall unseen = Check.told("hill 0 1 0;stone 0 20 1;stone 50 20 1;tin 1;seeker 0 20 0 0;seeker 0 20 0 0",
            "look 1 if stone=1 and day>=seeker");
        unseen.name(1, 1);
        isRuled(unseen, "where no walkers come", 1, 0);
        TinWall gone = Check.told("hill 50 1 0;stone 50 4 1;tin 0;seeker 0 4 0 0;seeker 0 3 0 0;walker 1", "look 1");
        gone.name(1, 1);
        isRuled(gone, "who comes too late", 0, -2);
    }

    private static void isAsked(TinWall wall, String what, int seeker, int alike) {
        Check.is("whom to ask " + what, wall.ask(0), seeker);
        Check.is("how many alike " + what, wall.ask(1), alike);
    }

    private static void ask() {
        TinWall wall = Check.told(HILL, RULES);
        isAsked(wall, "without NAMES", 1, 2);
        wall.name(0, 1);
        isAsked(wall, "with DAY 0 of 1", 0, 1);
        wall.name(0, 0);
        isAsked(wall, "of several the least", 0, 1);
        wall.name(1, 0);
        isAsked(wall, "none such", -2, -2);
        isAsked(Check.told("hill 0 1 0;stone 1 1 1", "look 1"), "without SEEKERS", -2, -2);
        isAsked(Check.told(HILL), "without RULES", 0, 1);
    }

    private static void forged() {
        TinWall wall = Check.told(HILL, RULES);
        Check.is("no NAMES", wall.forged(), 0);
        wall.name(0, 0);
        wall.name(59, 0);
        wall.name(3, 1);
        Check.is("each alone", wall.forged(), 2);
        isRuled(wall, "together", 0, -2);
        for (int i = 0; i < 6; i++) {
            wall.name(60, 1);
        }
        wall.name(61, 1);
        wall.name(1, 1);
        Check.is("the tenth", wall.forged(), 2 + 512);
        TinWall nearest = Check.told(HILL.replace("hill 0", "hill 50"));
        nearest.name(0, 0);
        nearest.name(1, 0);
        Check.is("by none, too", nearest.forged(), 2);
        nearest.name(-1, 0);
        nearest.name(1, 0);
        Check.is("the first", nearest.forged(), 1);
    }

    private static void wrongAsked() {
        TinWall wall = Check.told(HILL);
        TinWall none = new TinWall();
        int[] wrong = {-1, 2, Integer.MIN_VALUE, Integer.MAX_VALUE};
        for (int what : wrong) {
            Check.is("ruled " + what, wall.ruled(what), -3);
            Check.is("ask " + what, wall.ask(what), -1);
        }
        Check.is("ruled without a HILL", none.ruled(0), -3);
        Check.is("ask without a HILL", none.ask(0), -1);
        Check.is("forged without a HILL", none.forged(), -1);
    }
}
