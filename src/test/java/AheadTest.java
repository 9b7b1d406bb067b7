/** Promises 16 to 19 and 24 to 26: AHEAD, TODAY, FIRST, HIDING, WORTH, WANDERS, SHOWS. */
public final class AheadTest {
    /** On DAY 2 STONE 0 is worn so that SEEKER 0 comes to STONE 1, and puts it behind STONE 0; SEEKER 1 puts it back. */
    private static final String HILL = "hill 0 2 0;stone 0 2 1;stone 9 2 1;tin 1;thing 9;thing 4;seeker 0 3 1 2;seeker 0 2 5 1;walker 9";

    private AheadTest() {
    }

    public static void main(String[] args) {
        ahead();
        asDaysGo();
        today();
        first();
        hiding();
        worth();
        wanders();
        shows();
        wrongAsked();
        Check.done();
    }

    private static void ahead() {
        TinWall wall = Check.told(HILL);
        Check.is("where, now", wall.ahead(0, 0, 0), 1);
        Check.is("where, of no number", wall.ahead(-7, 3, 0), 1);
        Check.is("wear 0 after 2", wall.ahead(0, 2, 1), 4);
        Check.is("wear 0 after 3", wall.ahead(0, 3, 1), 6);
        Check.is("wear 1 after 3", wall.ahead(1, 3, 1), 1);
        Check.is("seeker 0 after 2", wall.ahead(0, 2, 2), -1);
        Check.is("seeker 0 after 3", wall.ahead(0, 3, 2), 2);
        Check.is("seeker 1 after 3", wall.ahead(1, 3, 2), 2);
        Check.is("nothing changes", wall.count(8) + wall.stone(0, 3) + wall.count(10) + wall.count(13), 0);
        TinWall gone = Check.told("hill 0 1 0;stone 0 2 1;tin 0;seeker 0 2 0 0;walker 0");
        Check.is("gone", gone.ahead(0, 1, 0), -1);
        Check.is("a hundred DAYS", gone.ahead(0, 100, 2), 0);
    }

    private static TinWall moving() {
        TinWall wall = Check.told("hill 40 20 0;stone 35 9 1;stone 40 5 1;stone 60 8 1;stone 10 12 3;tin 3;thing 50;thing 60;"
            + "seeker 2 15 10 1;seeker 0 9 70 2;seeker 5 20 0 0;seeker 0 30 55 2;walker 12;walker 30;walker 50",
            "look wear*3-off if vain<9;look off+vain%7*stone if seeker>1 or found>0;look 0-minutes");
        wall.force(0);
        return wall;
    }

    private static void asDaysGo() {
        TinWall asked = moving();
        TinWall wall = moving();
        for (int n = 0; n <= 90; n++) {
            Check.is("where, DAY " + n, asked.ahead(0, n, 0), wall.count(9));
            Check.is("WEAR, DAY " + n, asked.ahead(2, n, 1), wall.stone(2, 3));
            Check.is("who, DAY " + n, asked.ahead(1, n, 2), wall.seeker(1, 4));
            Check.is("WORTH, DAY " + n, asked.worth(n), wall.worth(0));
            wall.day();
        }
        Check.is("the DAY", wall.count(8), 91);
        Check.is("WORTH of both", wall.worth(0), wall.thing(0) + wall.thing(1));
    }

    private static void today() {
        TinWall wall = Check.told("hill 50 9 0;stone 40 5 1;stone 50 7 1;stone 62 4 1;tin 0;seeker 0 15 20 0;seeker 1 15 20 0;seeker 0 6 0 0");
        Check.is("first", wall.today(0, 0), 1);
        Check.is("second", wall.today(0, 1), 0);
        Check.is("no more than where it is", wall.today(0, 2), -2);
        Check.is("minutes", wall.today(0, -1), 12);
        Check.is("minutes with SKILL", wall.today(1, -1), 10);
        Check.is("nothing", wall.today(2, 0), -2);
        Check.is("no minutes", wall.today(2, -1), 0);
        wall.hide(2);
        Check.is("a third", wall.today(1, 2), 2);
        Check.is("minutes of three", wall.today(1, -1), 13);
        Check.is("not so many", wall.today(0, 2), -2);
        Check.is("far off", wall.today(0, Integer.MAX_VALUE), -2);
        wall.day();
        Check.is("found", wall.seeker(1, 4), 0);
        Check.is("as if they had not FOUND it", wall.today(1, 2), 2);
        Check.is("nothing changes", wall.seeker(1, 4) + wall.stone(0, 3), 2);
        Check.is("k -2", wall.today(0, -2), -3);
        Check.is("seeker 3", wall.today(3, 0), -3);
        Check.is("seeker -1", wall.today(-1, -1), -3);
    }

    private static void first() {
        TinWall wall = Check.told(HILL);
        Check.is("who", wall.first(0), 0);
        Check.is("when", wall.first(1), 2);
        wall.day();
        Check.is("when, from DAY 1", wall.first(1), 2);
        wall.day();
        wall.day();
        Check.is("all have", wall.first(0), -2);
        Check.is("none any more", wall.first(1), -2);
        wall.forget(1);
        Check.is("who can't come there", wall.first(0), -2);
        wall.hide(0);
        Check.is("who next", wall.first(0), 1);
        Check.is("when next", wall.first(1), 3);
        wall.forget(0);
        Check.is("of both the one ahead", wall.first(0), 0);
        String late = "hill 0 1 0;stone 0 20 1;stone 0 20 1;tin 1;seeker 0 20 0 0";
        wall = Check.told(late, "look 1 if stone=1 and day>=59", "look 1 if stone=1 and day>=60");
        wall.force(0);
        Check.is("on the last of 60 DAYS", wall.first(1), 59);
        Check.is("who on the last", wall.first(0), 0);
        wall.force(1);
        Check.is("beyond 60 DAYS", wall.first(0), -2);
        wall.day();
        Check.is("no more beyond", wall.first(1), 60);
        Check.is("without SEEKERS", Check.told("hill 0 1 0;stone 0 1 1;tin 0").first(0), -2);
    }

    private static void hiding() {
        TinWall wall = Check.told(HILL);
        Check.is("where for one DAY", wall.hiding(1, 0), 0);
        Check.is("how many in one DAY", wall.hiding(1, 1), 2);
        Check.is("of several the least", wall.hiding(3, 0), 0);
        Check.is("how many in three", wall.hiding(3, 1), 2);
        String seen = "hill 50 1 0;stone 40 2 1;stone 50 2 1;stone 99 2 1;tin 2;seeker 0 4 0 1;walker 0";
        wall = Check.told(seen);
        Check.is("so that it is not GONE then", wall.hiding(1, 0), 1);
        Check.is("one of them", wall.hiding(1, 1), 1);
        wall.day();
        wall.hide(0);
        wall.day();
        Check.is("they have it", wall.count(10), 1);
        wall.hide(2);
        Check.is("who has it now counts, too", wall.hiding(5, 1), 1);
        Check.is("all alike", wall.hiding(5, 0), 0);
        wall = Check.told("hill 50 1 0;stone 50 2 1;stone 50 2 1;tin 1;seeker 0 4 0 0;walker 0");
        Check.is("all GONE: the least", wall.hiding(1, 0), 0);
        Check.is("all GONE: one", wall.hiding(60, 1), 1);
        wall.day();
        wall.forget(0);
        Check.is("a new one", wall.hiding(1, 1), 1);
        Check.is("nothing changes", wall.count(9), -1);
        wall = Check.told("hill 50 1 0;stone 1 2 1;stone 50 3 1;stone 99 3 1;seeker 0 1 0 0");
        Check.is("nobody FINDS it: the least", wall.hiding(1, 0), 0);
        Check.is("nobody", wall.hiding(1, 1), 0);
        wall = Check.told("hill 50 1 0;seeker 0 1 0 0");
        Check.is("no STONES", wall.hiding(1, 0), -2);
        Check.is("no STONES, how many", wall.hiding(1, 1), -2);
        wall = Check.told("hill 50 1 0;stone 40 5 1;stone 60 5 1;stone 70 5 1;seeker 0 10 0 0;seeker 0 5 0 0", "look stone");
        wall.force(0);
        Check.is("by the RULE IN FORCE, most", wall.hiding(1, 0), 2);
        Check.is("both", wall.hiding(1, 1), 2);
    }

    private static void worth() {
        TinWall wall = Check.told(HILL);
        Check.is("now", wall.worth(0), 13);
        Check.is("after 2", wall.worth(2), 13);
        Check.is("after 3", wall.worth(3), 5);
        Check.is("after 100", wall.worth(100), 5);
        wall = Check.told("hill 0 1 0;stone 0 2 1;tin 0;thing 60;thing 9;seeker 0 2 7 0;walker 0");
        Check.is("of those that were in it", wall.worth(1), 16);
        wall.day();
        Check.is("gone", wall.count(9), -1);
        Check.is("gone now", wall.worth(0), 16);
        Check.is("no THINGS", Check.told("hill 0 1 0;stone 0 2 1;tin 0").worth(5), 0);
    }

    private static void wanders() {
        TinWall wall = Check.told("hill 0 9 0;stone 0 1 1;stone 1 1 1;stone 2 1 1;tin 0;seeker 0 9 0 1;seeker 0 1 0 1");
        Check.is("from 0 to 2 in a DAY", wall.ahead(0, 1, 0), 1);
        Check.is("one DAY", wall.wanders(1), 2);
        wall = Check.told(HILL);
        Check.is("there and back in a DAY", wall.wanders(3), 1);
        wall.figure(9);
        Check.is("by FIGURE 9", wall.wanders(1), 2);
        wall = Check.told("hill 0 9 0;stone 0 2 1;stone 1 2 1;stone 2 2 1;tin 0;seeker 0 2 0 1;seeker 0 2 0 1", "look 1 if day=seeker*2 and stone=day/2");
        wall.force(0);
        Check.is("on DAY 0", wall.wanders(1), 2);
        Check.is("up to DAY 1", wall.wanders(2), 2);
        Check.is("up to DAY 2", wall.wanders(3), 3);
        Check.is("a hundred", wall.wanders(100), 3);
        wall = Check.told("hill 0 1 0;stone 0 2 1;stone 1 2 1;tin 0;seeker 0 2 0 0;walker 0");
        Check.is("GONE is none", wall.wanders(5), 1);
        wall.day();
        Check.is("gone now", wall.wanders(5), 0);
    }

    private static void shows() {
        TinWall wall = Check.told(HILL);
        Check.is("which", wall.shows(0), 0);
        Check.is("when", wall.shows(1), 1);
        wall.day();
        wall.day();
        Check.is("as now", wall.shows(1), 2);
        wall = Check.told("hill 9 1 0;stone 9 1 1;stone 9 1 1;seeker 0 9 0 0");
        Check.is("of several the least", wall.shows(0), 0);
        Check.is("on DAY 1", wall.shows(1), 1);
        String many = "hill 0 50 0" + ";stone 1 20 1".repeat(10) + ";seeker 0 20 0 0";
        wall = Check.told(many, "look 1 if day<149 and stone=day%9;look 1 if day>=149 and stone=9",
            "look 1 if day<150 and stone=day%9;look 1 if day>=150 and stone=9");
        wall.force(0);
        Check.is("at the last of 200 begins", wall.shows(0), 9);
        Check.is("on DAY 199", wall.shows(1), 199);
        wall.force(1);
        Check.is("behind 200 DAYS", wall.shows(0), -2);
        Check.is("nor when", wall.shows(1), -2);
        wall.day();
        Check.is("a DAY later", wall.shows(1), 200);
        Check.is("without SEEKERS", Check.told("hill 0 1 0;stone 0 1 1").shows(0), -2);
        Check.is("without STONES", Check.told("hill 0 1 0;seeker 0 1 1 1").shows(0), -2);
    }

    private static void wrongAsked() {
        TinWall wall = Check.told(HILL);
        TinWall none = new TinWall();
        int[] wrong = {-1, 2, Integer.MIN_VALUE, Integer.MAX_VALUE};
        for (int what : wrong) {
            Check.is("first " + what, wall.first(what), -1);
            Check.is("hiding what " + what, wall.hiding(1, what), -1);
            Check.is("shows " + what, wall.shows(what), -1);
            Check.is("ahead of STONE " + what, wall.ahead(what, 0, 1), -2);
            Check.is("ahead of SEEKER " + what, wall.ahead(what, 0, 2), -2);
            Check.is("ahead what " + what, what == 2 ? -2 : wall.ahead(0, 0, what), -2);
        }
        Check.is("ahead what 3", wall.ahead(0, 0, 3), -2);
        Check.is("ahead -1", wall.ahead(0, -1, 0), -2);
        Check.is("ahead 101", wall.ahead(0, 101, 0), -2);
        Check.is("hiding 0", wall.hiding(0, 0), -1);
        Check.is("hiding 61", wall.hiding(61, 0), -1);
        Check.is("worth -1", wall.worth(-1), -1);
        Check.is("worth 101", wall.worth(101), -1);
        Check.is("wanders 0", wall.wanders(0), -1);
        Check.is("wanders 101", wall.wanders(101), -1);
        Check.is("ahead without a HILL", none.ahead(0, 1, 0), -2);
        Check.is("today without a HILL", none.today(0, -1), -3);
        Check.is("first without a HILL", none.first(1), -1);
        Check.is("hiding without a HILL", none.hiding(1, 1), -1);
        Check.is("worth without a HILL", none.worth(1), -1);
        Check.is("wanders without a HILL", none.wanders(1), -1);
        Check.is("shows without a HILL", none.shows(1), -1);
    }
}
