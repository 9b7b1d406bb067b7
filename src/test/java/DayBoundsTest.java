import java.util.Map;

/** The edges of LOOKING, of a DAY and of the ACTS (Terms II; promises 10 to 15). */
public final class DayBoundsTest {
    private interface Call {
        int on(TinWall wall);
    }

    private DayBoundsTest() {
    }

    public static void main(String[] args) {
        oneMinuteAtLeast();
        aQuarterDownwards();
        notMoreThanPatience();
        atTheFirstThatIsMoreTheyGo();
        theyLookNoMore();
        ofSeveralTheLeast();
        asAtTheBeginOfTheLooking();
        wearNinetyNine();
        vainNinetyNine();
        ofMoreWorth();
        theLastAndTheFirstStay();
        noticeOrMore();
        walkersOfTheDay();
        allHaveFoundIt();
        nobodyAndNothing();
        hide();
        rest();
        figure();
        forget();
        twentyActs();
        undoneOneByOne();
        Check.done();
    }

    private static TinWall worn(String hill, int days) {
        TinWall wall = Check.told(hill);
        Check.days(wall, days);
        return wall;
    }

    /** What a call answers, and all that is told otherwise behind it. */
    private static void changes(TinWall wall, String call, Call made, int due, String changed) {
        Map<String, Integer> before = Seen.all(wall);
        Check.is(call, made.on(wall), due);
        Check.same("changed by " + call, Seen.changed(before, Seen.all(wall)), changed);
    }

    // ---- LOOKING

    private static int minutes(int hard, int skill, int wear) {
        TinWall wall = worn("hill 0 50 0;stone 0 " + hard + " 1;seeker " + skill + " 99 0 0;seeker 0 99 0 0", 0);
        for (int i = 0; i < wear; i += 2) {
            wall.day();
        }
        Check.is("WEAR", wall.stone(0, 3), wear);
        return wall.today(0, -1);
    }

    private static void oneMinuteAtLeast() {
        Check.is("HARD 1", minutes(1, 0, 0), 1);
        Check.is("HARD 1, SKILL 1", minutes(1, 1, 0), 1);
        Check.is("HARD 1, SKILL 9", minutes(1, 9, 0), 1);
        Check.is("HARD 2, SKILL 1", minutes(2, 1, 0), 1);
        Check.is("HARD 3, SKILL 1", minutes(3, 1, 0), 2);
        Check.is("HARD 20", minutes(20, 0, 0), 20);
        Check.is("HARD 20, SKILL 9", minutes(20, 9, 0), 11);
        Check.is("HARD 2, WEAR 4", minutes(2, 0, 4), 1);
        Check.is("HARD 2, WEAR 8", minutes(2, 0, 8), 1);
        Check.is("HARD 20, WEAR 72", minutes(20, 0, 72), 2);
        Check.is("HARD 20, WEAR 76", minutes(20, 0, 76), 1);
        Check.is("HARD 20, WEAR 80", minutes(20, 0, 80), 1);
        Check.is("HARD 20, SKILL 9, WEAR 98", minutes(20, 9, 98), 1);
    }

    private static void aQuarterDownwards() {
        TinWall wall = Check.told("hill 0 50 0;stone 0 20 1;seeker 0 99 0 0");
        for (int wear = 0; wear < 99; wear++) {
            Check.is("WEAR", wall.stone(0, 3), wear);
            Check.is("MINUTES at WEAR " + wear, wall.today(0, -1), Math.max(1, 20 - wear / 4));
            wall.day();
        }
        Check.is("the first quarter", Check.told("hill 0 50 0;stone 0 20 1;seeker 0 99 0 0").today(0, -1), 20);
    }

    private static void notMoreThanPatience() {
        String stones = "hill 0 50 0;stone 0 5 1;stone 10 7 1;stone 20 4 1;";
        int[][] due = {{4, 0, 0}, {5, 1, 5}, {6, 1, 5}, {11, 1, 5}, {12, 3, 12}, {15, 3, 12}, {16, 7, 16}, {17, 7, 16}, {99, 7, 16}};
        for (int[] row : due) {
            TinWall wall = Check.told(stones + "seeker 0 " + row[0] + " 0 0");
            Check.is("MINUTES by PATIENCE " + row[0], wall.today(0, -1), row[2]);
            wall.day();
            Check.is("TRIED by PATIENCE " + row[0], wall.seeker(0, 6), row[1]);
            Check.is("in VAIN by PATIENCE " + row[0], wall.seeker(0, 5), 1);
        }
        TinWall most = Check.told("hill 0 50 0" + ";stone 0 20 1".repeat(10) + ";seeker 9 99 0 0;seeker 0 99 0 0");
        Check.is("nine of eleven MINUTES", most.today(0, -1), 99);
        Check.is("the ninth", most.today(0, 8), 8);
        Check.is("no tenth", most.today(0, 9), -2);
        Check.is("four of twenty MINUTES", most.today(1, -1), 80);
        TinWall one = Check.told("hill 0 50 0;stone 0 1 1;stone 0 1 1;seeker 0 1 0 0;seeker 9 1 0 0");
        Check.is("PATIENCE 1", one.today(0, -1), 1);
        Check.is("one STONE", one.today(0, 1), -2);
        Check.is("one MINUTE at least, for the second, too", one.today(1, 1), -2);
    }

    private static void atTheFirstThatIsMoreTheyGo() {
        TinWall wall = Check.told("hill 0 50 0;stone 1 2 1;stone 2 9 1;stone 3 2 1;tin 2;seeker 0 4 0 0;seeker 0 1 0 0");
        Check.is("what would be in time is not looked at", wall.today(0, 1), -2);
        Check.is("nor found", wall.day(), 0);
        Check.is("WEAR 0", wall.stone(0, 3), 1);
        Check.is("WEAR 1", wall.stone(1, 3), 0);
        Check.is("WEAR 2", wall.stone(2, 3), 0);
        Check.is("TRIED by none", wall.stone(2, 4), 0);
    }

    private static void theyLookNoMore() {
        TinWall wall = Check.told("hill 0 50 0;stone 1 2 1;stone 2 2 1;stone 3 2 1;tin 1;seeker 0 99 0 0");
        Check.is("the one where it is", wall.today(0, 1), 1);
        Check.is("no third", wall.today(0, 2), -2);
        Check.is("MINUTES of two", wall.today(0, -1), 4);
        wall.hide(0);
        Check.is("of the first alone", wall.today(0, 1), -2);
        wall.hide(2);
        Check.is("of all three", wall.today(0, -1), 6);
        Check.is("found at the last", wall.day(), 1);
        Check.is("TRIED", wall.seeker(0, 6), 7);
    }

    private static void ofSeveralTheLeast() {
        TinWall wall = Check.told("hill 50 50 0;stone 51 1 1;stone 49 1 1;stone 50 1 1;stone 52 1 1;stone 48 1 1;seeker 0 99 0 0", "look 7");
        int[] nearest = {2, 0, 1, 3, 4};
        for (int k = 0; k < 5; k++) {
            Check.is("as near, " + k, wall.today(0, k), nearest[k]);
        }
        wall.force(0);
        for (int k = 0; k < 5; k++) {
            Check.is("as great, " + k, wall.today(0, k), k);
        }
        wall = Check.told("hill 0 50 0;stone 99 1 1;stone 0 1 1;stone 1 1 1;seeker 0 99 0 0");
        Check.is("from FIGURE 0", wall.today(0, 0) * 100 + wall.today(0, 1) * 10 + wall.today(0, 2), 120);
        wall.figure(99);
        Check.is("from FIGURE 99", wall.today(0, 0) * 100 + wall.today(0, 1) * 10 + wall.today(0, 2), 21);
    }

    /** A LOOKING goes by the WEAR at its begin; that of the one ahead on the same DAY is there by then. */
    private static void asAtTheBeginOfTheLooking() {
        TinWall wall = Check.told("hill 0 50 0;stone 0 3 1;stone 0 3 1;seeker 0 6 0 0;seeker 0 5 0 0");
        Check.days(wall, 2);
        Check.is("WEAR 4 and 2", wall.stone(0, 3) * 10 + wall.stone(1, 3), 42);
        Check.is("SEEKER 1 had no time for the second", wall.seeker(1, 6), 1);
        wall.day();
        Check.is("WEAR 6 and 4", wall.stone(0, 3) * 10 + wall.stone(1, 3), 64);
        Check.is("SEEKER 1 had, by the WEAR", wall.seeker(1, 6), 3);
        TinWall same = Check.told("hill 0 50 0;stone 0 2 1;seeker 0 2 0 0;seeker 0 2 0 0;seeker 0 2 0 0;seeker 0 1 0 0");
        same.day();
        Check.is("WEAR 3 on the DAY is no MINUTE", same.seeker(3, 6), 0);
        same.day();
        Check.is("more is, on the same DAY", same.seeker(3, 6), 1);
        Check.is("WEAR of four more", same.stone(0, 3), 7);
    }

    // ---- a DAY

    private static void wearNinetyNine() {
        TinWall wall = worn("hill 0 50 0;stone 0 1 1;stone 99 1 1;tin 1;seeker 0 1 0 0", 98);
        Check.is("WEAR 98", wall.stone(0, 3), 98);
        wall.day();
        Check.is("WEAR 99", wall.stone(0, 3), 99);
        changes(wall, "a DAY at WEAR 99", it -> it.day(), 0, "count(8)=100");
        Check.is("asked for a hundred DAYS ahead", wall.ahead(0, 100, 1), 99);
        wall.hide(0);
        Check.is("they FIND it there", wall.day(), 1);
        Check.is("WEAR is 99 still", wall.stone(0, 3), 99);
        Check.is("REST of the most", wall.rest(0), 99);
        Check.is("nothing WORN", wall.stone(0, 3), 0);
    }

    private static void vainNinetyNine() {
        TinWall wall = worn("hill 0 50 0;stone 0 20 1;tin 0;seeker 0 1 0 0", 98);
        Check.is("98 times in VAIN", wall.seeker(0, 5), 98);
        wall.day();
        Check.is("99 times in VAIN", wall.seeker(0, 5), 99);
        changes(wall, "once more", it -> it.day(), 0, "count(8)=100");
        wall = worn("hill 0 50 0;stone 0 20 1;stone 99 1 1;tin 1;seeker 0 1 0 0", 101);
        wall.figure(99);
        Check.is("then they FIND it", wall.day(), 1);
        Check.is("VAIN stays", wall.seeker(0, 5), 99);
        wall.forget(0);
        Check.is("VAIN stays then, too", wall.seeker(0, 5), 99);
    }

    /** The WORTH they carry then, and the THINGS, by their three digits of two each. */
    private static void swapped(String things, int carried, int due, String then) {
        TinWall wall = Check.told("hill 0 50 0;stone 0 1 1;tin 0" + things + ";seeker 0 9 " + carried + " 0");
        Check.is("found", wall.day(), 1);
        Check.is(carried + " for one of" + things, wall.seeker(0, 2), due);
        StringBuilder is = new StringBuilder();
        for (int i = 0; i < wall.count(4); i++) {
            is.append(wall.thing(i)).append(' ');
        }
        Check.same("in it then of" + things, is.toString().strip(), then);
    }

    private static void ofMoreWorth() {
        swapped("", 0, 0, "");
        swapped(";thing 0", 0, 0, "0");
        swapped(";thing 5", 5, 5, "5");
        swapped(";thing 5", 6, 6, "5");
        swapped(";thing 5", 4, 5, "4");
        swapped(";thing 99", 0, 99, "0");
        swapped(";thing 99", 98, 99, "98");
        swapped(";thing 0", 99, 99, "0");
        swapped(";thing 7;thing 9;thing 9", 5, 9, "7 5 9");
        swapped(";thing 9;thing 9;thing 9", 8, 9, "8 9 9");
        swapped(";thing 7;thing 8;thing 9", 5, 9, "7 8 5");
        swapped(";thing 9;thing 8;thing 7", 5, 9, "5 8 7");
        swapped(";thing 7;thing 8;thing 9", 8, 9, "7 8 8");
        swapped(";thing 7;thing 8;thing 9", 9, 9, "7 8 9");
        swapped(";thing 1;thing 2;thing 3;thing 4;thing 5;thing 6", 0, 6, "1 2 3 4 5 0");
    }

    private static void theLastAndTheFirstStay() {
        int[][] due = {{1, 0, 0, 0}, {1, 0, 1, 0}, {1, 0, 2, 0}, {2, 0, 1, 1}, {2, 1, 1, 1}, {2, 1, 2, 0}, {2, 0, 2, 0},
            {10, 9, 1, 9}, {10, 8, 1, 9}, {10, 9, 2, 8}, {10, 0, 2, 0}, {10, 1, 2, 0}, {10, 9, 0, 9}, {10, 0, 0, 0}, {10, 0, 1, 1}};
        for (int[] row : due) {
            TinWall wall = Check.told("hill 0 50 0" + ";stone 0 1 1".repeat(row[0]) + ";tin " + row[1] + ";seeker 0 99 0 " + row[2]);
            Check.is("found", wall.day(), 1);
            Check.is("put back, of " + row[0] + " from " + row[1] + " by " + row[2], wall.count(9), row[3]);
        }
    }

    private static int where(int notice, int seekers, int shift) {
        TinWall wall = Check.told("hill 0 " + notice + " 0;stone 0 1 1;stone 99 1 1;tin 0" + (";seeker 0 1 0 " + shift).repeat(seekers) + ";walker 0");
        Check.is("before", wall.count(9), 0);
        wall.day();
        return wall.count(9);
    }

    private static void noticeOrMore() {
        Check.is("WEAR 0 of NOTICE 1", where(1, 0, 0), 0);
        Check.is("WEAR 1 of NOTICE 1", where(1, 1, 0), -1);
        Check.is("WEAR 1 of NOTICE 2", where(2, 1, 0), 0);
        Check.is("WEAR 2 of NOTICE 2", where(2, 2, 0), -1);
        Check.is("WEAR 3 of NOTICE 2", where(2, 3, 0), -1);
        Check.is("WEAR 4 of NOTICE 5", where(5, 4, 0), 0);
        Check.is("WEAR of the STONE where it is then", where(1, 1, 1), 1);
        TinWall most = worn("hill 0 50 0;stone 0 1 1;stone 9 1 1;tin 1;seeker 0 1 0 0;walker 48;walker 49", 49);
        Check.is("another STONE is WORN", most.count(9), 1);
        most.hide(0);
        Check.is("WEAR 49 ahead of the DAY", most.stone(0, 3), 49);
        most.day();
        Check.is("50 of 50 behind the LOOKING", most.count(9), -1);
        most = worn("hill 0 50 0;stone 0 1 1;stone 9 1 1;tin 1;seeker 0 1 0 0;walker 48", 48);
        most.hide(0);
        most.day();
        Check.is("49 of 50", most.count(9), 0);
    }

    private static void walkersOfTheDay() {
        TinWall wall = Check.told("hill 0 1 0;stone 0 1 1;tin 0;seeker 0 1 0 0;walker 2;walker 2");
        wall.day();
        Check.is("none on DAY 0", wall.count(9), 0);
        wall.day();
        Check.is("none on DAY 1", wall.count(9), 0);
        Check.is("it is their DAY", wall.count(11), 1);
        wall.day();
        Check.is("gone", wall.count(9), -1);
        Check.is("the THINGS and who FOUND it stay", wall.count(10), 1);
        wall.hide(0);
        wall.day();
        Check.is("a new one stays on DAY 3", wall.count(9), 0);
        TinWall late = worn("hill 0 1 0;stone 0 1 1;tin 0;seeker 0 1 0 0;walker 99", 99);
        Check.is("not yet on DAY 98", late.count(9), 0);
        late.day();
        Check.is("on DAY 99", late.count(9), -1);
    }

    private static void allHaveFoundIt() {
        TinWall wall = worn("hill 0 9 0;stone 0 1 1;tin 0;thing 5;seeker 0 1 9 0;seeker 0 1 9 0", 1);
        Check.is("both", wall.count(10), 3);
        changes(wall, "a DAY of nobody", it -> it.day(), 0, "count(13)=2 count(8)=2");
    }

    private static void nobodyAndNothing() {
        changes(Check.told("hill 5 1 0"), "a DAY on a bare HILL", it -> it.day(), 0, "count(13)=1 count(8)=1");
        changes(Check.told("hill 5 1 0;walker 0;stone 1 1 1;tin 0"), "a DAY without SEEKERS", it -> it.day(), 0,
            "count(11)=0 count(13)=1 count(8)=1");
        changes(Check.told("hill 5 1 0;seeker 0 9 9 1"), "a DAY without STONES", it -> it.day(), 0,
            "count(13)=1 count(8)=1 seeker(0,5)=1");
        changes(Check.told("hill 5 1 0;stone 1 1 1;seeker 0 9 9 1"), "a DAY without a tin", it -> it.day(), 0,
            "count(13)=1 count(8)=1 seeker(0,5)=1 seeker(0,6)=1 stone(0,3)=1 stone(0,4)=1");
        Check.is("without a HILL", new TinWall().day(), -1);
    }

    // ---- ACTS

    /** DAY 1: SEEKER 0 has FOUND it at STONE 0 and put it behind STONE 1; SEEKER 1 was there in VAIN. */
    private static TinWall oneDay() {
        return worn("hill 50 9 0;stone 50 4 1;stone 60 4 1;tin 0;thing 9;seeker 0 4 3 1;seeker 0 4 5 1", 1);
    }

    private static void hide() {
        changes(oneDay(), "hide 0", it -> it.hide(0), 1, "count(13)=2 count(9)=0");
        changes(oneDay(), "hide where it is", it -> it.hide(1), -2, "");
        changes(oneDay(), "hide behind the STONE ahead of all", it -> it.hide(-1), -2, "");
        changes(oneDay(), "hide behind the STONE behind all", it -> it.hide(2), -2, "");
        TinWall gone = worn("hill 50 1 0;stone 50 4 1;stone 60 4 1;tin 1;thing 9;seeker 0 9 3 0;walker 0", 1);
        changes(gone, "hide a new one where it was", it -> it.hide(1), -1, "count(13)=2 count(9)=1");
        changes(gone, "hide it there again", it -> it.hide(1), -2, "");
        TinWall none = Check.told("hill 50 1 0;stone 50 4 1;thing 9");
        changes(none, "hide, without a tin from the first", it -> it.hide(0), -1, "count(13)=1 count(9)=0");
        Check.is("without STONES", Check.told("hill 50 1 0").hide(0), -2);
    }

    private static void rest() {
        changes(oneDay(), "rest 0", it -> it.rest(0), 2, "count(13)=2 stone(0,3)=0");
        changes(oneDay(), "rest where nothing is WORN", it -> it.rest(1), -1, "");
        changes(oneDay(), "rest 2", it -> it.rest(2), -1, "");
        changes(oneDay(), "rest -1", it -> it.rest(-1), -1, "");
        TinWall one = worn("hill 50 9 0;stone 50 4 1;seeker 0 4 3 0", 1);
        changes(one, "rest of WEAR 1", it -> it.rest(0), 1, "count(13)=2 stone(0,3)=0");
        changes(one, "rest again", it -> it.rest(0), -1, "");
    }

    private static void figure() {
        changes(oneDay(), "figure 0", it -> it.figure(0), 50, "count(0)=0 count(13)=2");
        changes(oneDay(), "figure 99", it -> it.figure(99), 50, "count(0)=99 count(13)=2");
        changes(oneDay(), "figure 51", it -> it.figure(51), 50, "count(0)=51 count(13)=2");
        changes(oneDay(), "figure 49", it -> it.figure(49), 50, "count(0)=49 count(13)=2");
        changes(oneDay(), "figure 50", it -> it.figure(50), -1, "");
        changes(oneDay(), "figure 100", it -> it.figure(100), -1, "");
        changes(oneDay(), "figure -1", it -> it.figure(-1), -1, "");
        TinWall zero = Check.told("hill 0 1 0");
        changes(zero, "figure 0 of 0", it -> it.figure(0), -1, "");
        changes(zero, "figure 1 of 0", it -> it.figure(1), 0, "count(0)=1 count(13)=1");
        changes(new TinWall(), "figure without a HILL", it -> it.figure(1), -1, "");
    }

    private static void forget() {
        changes(oneDay(), "forget 0", it -> it.forget(0), 0, "count(10)=0 count(13)=2 seeker(0,4)=-1");
        changes(oneDay(), "forget 1", it -> it.forget(1), -1, "");
        changes(oneDay(), "forget 2", it -> it.forget(2), -1, "");
        changes(oneDay(), "forget -1", it -> it.forget(-1), -1, "");
        TinWall both = worn("hill 60 9 0;stone 50 4 1;stone 60 4 1;tin 0;thing 9;seeker 0 4 3 0;seeker 0 4 5 1", 2);
        both.figure(50);
        both.day();
        Check.is("both have FOUND it", both.count(10), 3);
        changes(both, "forget the last", it -> it.forget(1), 2, "count(10)=1 count(13)=5 seeker(1,4)=-1");
        Check.is("VAIN stays", both.seeker(1, 5), 2);
        changes(both, "forget the last again", it -> it.forget(1), -1, "");
    }

    private static void twentyActs() {
        for (int acts = 0; acts <= 41; acts++) {
            TinWall wall = Check.told("hill 0 9 0;stone 0 9 1;tin 0;seeker 0 1 0 0");
            for (int i = 1; i <= acts; i++) {
                if (i % 2 == 0) {
                    wall.day();
                } else {
                    wall.figure(i);
                }
            }
            int kept = Math.min(20, acts);
            Check.is("ACTS that can be UNDONE, of " + acts, wall.count(13), kept);
            for (int left = kept - 1; left >= 0; left--) {
                Check.is("undo, of " + acts, wall.undo(), left);
                Check.is("the DAY, of " + acts, wall.count(8), (acts - kept + left) / 2);
            }
            Check.is("no more, of " + acts, wall.undo(), -2);
            Check.is("the DAY then, of " + acts, wall.count(8), (acts - kept) / 2);
            Check.is("none can be, of " + acts, wall.count(13), 0);
        }
        TinWall again = Check.told("hill 0 9 0");
        Check.days(again, 25);
        for (int i = 0; i < 3; i++) {
            again.undo();
        }
        Check.days(again, 2);
        Check.is("19 then", again.count(13), 19);
        again.day();
        again.day();
        Check.is("20 at most", again.count(13), 20);
        int undone = 0;
        while (undone < 30 && again.undo() >= 0) {
            undone++;
        }
        Check.is("20 were UNDONE", undone, 20);
        Check.is("as after DAY 5", again.count(8), 6);
    }

    /** What an ACT changed is as it was, whatever it was. */
    private static void undoneOneByOne() {
        Call[] acts = {it -> it.day(), it -> it.hide(0), it -> it.rest(0), it -> it.figure(77), it -> it.forget(0)};
        for (int i = 0; i < acts.length; i++) {
            TinWall with = oneDay();
            TinWall without = oneDay();
            acts[i].on(with);
            Check.is("an ACT, " + i, with.count(13), 2);
            Check.is("UNDONE, " + i, with.undo(), 1);
            Check.same("as it was ahead of ACT " + i, Seen.drained(with), Seen.drained(without));
        }
        TinWall gone = Check.told("hill 50 1 0;stone 50 4 1;tin 0;thing 9;seeker 0 9 3 0;walker 0");
        gone.day();
        Check.is("gone", gone.count(9), -1);
        gone.undo();
        Check.is("there again", gone.count(9), 0);
        Check.is("with the THING as it was", gone.thing(0), 9);
        Check.is("walkers come again", gone.day() * 10 + gone.count(9), 9);
    }
}
