/** The edges of what is asked of DAYS that come, and of ODDS (Terms III; promises 16 to 26). */
public final class AskBoundsTest {
    private AskBoundsTest() {
    }

    public static void main(String[] args) {
        aheadNoDayToAHundred();
        aheadOfNoNumber();
        aheadNone();
        todayTheKth();
        todayAsIfTheFirst();
        todayAsIfNotFound();
        firstInSixtyDays();
        firstOfADay();
        hidingSixtyDays();
        hidingMost();
        hidingNotGone();
        orderOfOdds();
        orderOfSeveralTheLeast();
        meanInLowestTerms();
        goneOfNothing();
        goneTriedByAnybody();
        hintOneToNinetyNine();
        worthNoDayToAHundred();
        wandersBeginsAndBehindTheLast();
        wandersGoneIsNone();
        showsTwoHundredDays();
        showsNoticeOrMore();
        bare();
        Check.done();
    }

    private static TinWall by(String hill, String rule, int days) {
        TinWall wall = Check.told(hill, rule);
        wall.force(0);
        Check.days(wall, days);
        return wall;
    }

    // ---- AHEAD

    /** They look each DAY, all else as it is: WEAR counts the DAYS. */
    private static void aheadNoDayToAHundred() {
        TinWall wall = Check.told("hill 0 50 0;stone 0 1 1;stone 9 1 1;tin 1;seeker 0 1 0 0");
        for (int n = 0; n <= 100; n++) {
            Check.is("WEAR ahead " + n, wall.ahead(0, n, 1), Math.min(99, n));
        }
        Check.is("ahead 101", wall.ahead(0, 101, 1), -2);
        Check.is("ahead -1", wall.ahead(0, -1, 1), -2);
        Check.days(wall, 3);
        Check.is("ahead 0 on DAY 3", wall.ahead(0, 0, 1), 3);
        Check.is("ahead 1 on DAY 3", wall.ahead(0, 1, 1), 4);
        String late = "hill 0 50 0;stone 0 20 1;stone 0 20 1;tin 1;seeker 0 20 0 0";
        wall = by(late, "look 1 if stone=1 and day>=99", 0);
        Check.is("not in 99 DAYS", wall.ahead(0, 99, 2), -1);
        Check.is("on the last of a hundred", wall.ahead(0, 100, 2), 99);
        wall = by(late, "look 1 if stone=1 and day>=100", 0);
        Check.is("behind the last of a hundred", wall.ahead(0, 100, 2), -1);
        wall.day();
        Check.is("a DAY later", wall.ahead(0, 100, 2), 100);
    }

    private static void aheadOfNoNumber() {
        TinWall wall = Check.told("hill 0 50 0;stone 0 1 1;stone 9 1 1;tin 1;seeker 0 1 0 0");
        for (int number : new int[] {0, 1, 2, -1, Integer.MAX_VALUE, Integer.MIN_VALUE}) {
            Check.is("where, of no number " + number, wall.ahead(number, 5, 0), 1);
            Check.is("WEAR of " + number, wall.ahead(number, 5, 1), number == 0 ? 5 : number == 1 ? 0 : -2);
            Check.is("who, of " + number, wall.ahead(number, 5, 2), number == 0 ? -1 : -2);
            Check.is("what 3 of " + number, wall.ahead(number, 5, 3), -2);
            Check.is("what -1 of " + number, wall.ahead(number, 5, -1), -2);
        }
    }

    private static void aheadNone() {
        TinWall wall = Check.told("hill 0 1 0;stone 0 1 1;tin 0;seeker 0 1 0 0;walker 1");
        Check.is("there behind DAY 0", wall.ahead(0, 1, 0), 0);
        Check.is("GONE behind DAY 1", wall.ahead(0, 2, 0), -1);
        Check.is("GONE for good", wall.ahead(0, 100, 0), -1);
        Check.is("they had FOUND it", wall.ahead(0, 100, 2), 0);
        Check.is("not yet", wall.ahead(0, 0, 2), -1);
        Check.is("without a tin", Check.told("hill 0 1 0;stone 0 1 1").ahead(0, 0, 0), -1);
    }

    // ---- TODAY

    private static void todayTheKth() {
        TinWall wall = Check.told("hill 0 50 0" + ";stone 0 1 1".repeat(10) + ";seeker 0 99 0 0;seeker 0 3 0 0;seeker 0 1 0 0");
        int[] many = {10, 3, 1};
        for (int seeker = 0; seeker < 3; seeker++) {
            Check.is("MINUTES of " + seeker, wall.today(seeker, -1), many[seeker]);
            for (int k = 0; k < 12; k++) {
                Check.is("the " + k + "-th of " + seeker, wall.today(seeker, k), k < many[seeker] ? k : -2);
            }
            Check.is("far off", wall.today(seeker, Integer.MAX_VALUE), -2);
            Check.is("k -2", wall.today(seeker, -2), -3);
            Check.is("k, the least", wall.today(seeker, Integer.MIN_VALUE), -3);
        }
        Check.is("seeker 3", wall.today(3, -1), -3);
        Check.is("seeker 3, k 99", wall.today(3, 99), -3);
        Check.is("seeker -1", wall.today(-1, 0), -3);
        TinWall none = Check.told("hill 0 50 0;stone 0 2 1;seeker 0 1 0 0");
        Check.is("nothing today", none.today(0, 0), -2);
        Check.is("no MINUTES", none.today(0, -1), 0);
    }

    /** Those of less number have not been there yet: the tin is where it is, and nothing more is WORN. */
    private static void todayAsIfTheFirst() {
        String hill = "hill 0 50 0;stone 0 3 1;stone 0 3 1;stone 9 3 1;tin 0;seeker 0 9 0 1;seeker 0 9 0 1;seeker 0 9 0 1;seeker 0 6 0 0";
        TinWall wall = Check.told(hill);
        for (int seeker = 0; seeker < 4; seeker++) {
            Check.is("the STONE of " + seeker, wall.today(seeker, 0), 0);
            Check.is("no second of " + seeker, wall.today(seeker, 1), -2);
            Check.is("MINUTES of " + seeker, wall.today(seeker, -1), 3);
        }
        Check.is("as it then goes", wall.day(), 3);
        Check.is("the first looked at one", wall.seeker(0, 6), 1);
        Check.is("the next looked at two", wall.seeker(1, 6), 3);
        Check.is("the third at all", wall.seeker(2, 6), 7);
    }

    private static void todayAsIfNotFound() {
        String hill = "hill 0 50 0;stone 0 1 1;stone 0 1 1;tin 0;seeker 0 1 0 0;seeker 0 1 0 0";
        TinWall wall = Check.told(hill, "look found*stone");
        wall.day();
        wall.force(0);
        Check.is("both have FOUND it", wall.count(10), 3);
        Check.is("they would look", wall.today(0, -1), 1);
        Check.is("one other has FOUND it", wall.today(0, 0), 1);
        wall.forget(1);
        Check.is("now nobody else", wall.today(0, 0), 0);
        Check.is("for SEEKER 1 one other", wall.today(1, 0), 1);
        Check.is("they have FOUND it still", wall.count(10), 1);
        TinWall alone = by("hill 0 50 0;stone 0 1 1;stone 0 1 1;tin 0;seeker 0 1 0 0", "look found*stone", 1);
        Check.is("nobody, but for themselves", alone.today(0, 0), 0);
    }

    // ---- FIRST

    private static void firstInSixtyDays() {
        String late = "hill 0 1 0;stone 0 20 1;stone 0 20 1;tin 1;seeker 0 20 0 0";
        for (int day : new int[] {0, 1, 58, 59, 60, 61}) {
            TinWall wall = by(late, "look 1 if stone=1 and day>=" + day, 0);
            Check.is("who, on DAY " + day, wall.first(0), day < 60 ? 0 : -2);
            Check.is("DAY " + day, wall.first(1), day < 60 ? day : -2);
            wall.figure(7);
            Check.days(wall, 5);
            boolean had = day < 5;
            Check.is("from DAY 5, DAY " + day, wall.first(1), had ? -2 : day);
        }
        TinWall wall = by(late, "look 1 if stone=1 and day>=65", 5);
        Check.is("the 61st from DAY 5", wall.first(1), -2);
        Check.is("nor who", wall.first(0), -2);
    }

    private static void firstOfADay() {
        String hill = "hill 0 50 0;stone 0 20 1;stone 0 20 1;tin 1" + ";seeker 0 20 0 0".repeat(4);
        TinWall wall = by(hill, "look 1 if stone=1 and day+seeker>=3", 0);
        Check.is("the last on DAY 0", wall.first(0) * 10 + wall.first(1), 30);
        wall.day();
        Check.is("the next ahead of them", wall.first(0) * 10 + wall.first(1), 21);
        wall = by(hill, "look 1 if stone=1 and day=4 and seeker>0", 0);
        Check.is("of three on a DAY the least", wall.first(0) * 10 + wall.first(1), 14);
        Check.days(wall, 5);
        Check.is("who FINDS it no more is nobody", wall.first(0), -2);
        Check.is("without SEEKERS", Check.told("hill 0 1 0;stone 0 1 1;tin 0").first(1), -2);
        Check.is("without a tin", Check.told("hill 0 1 0;stone 0 1 1;seeker 0 9 0 0").first(1), -2);
    }

    // ---- HIDING

    /** SEEKER 0 looks at STONE 0, the others at 2 and 3, and from a DAY on both at STONE 1. */
    private static TinWall bothLate(int day, int days) {
        return by("hill 0 1 0" + ";stone 0 20 1".repeat(4) + ";seeker 0 20 0 0".repeat(3),
            "look 2 if stone=1 and seeker>0 and day>=" + day + ";look 1 if stone=0 and seeker=0 or stone=seeker+1 and seeker>0", days);
    }

    private static void hidingSixtyDays() {
        TinWall wall = bothLate(59, 0);
        Check.is("for 59 DAYS", wall.hiding(59, 0) * 10 + wall.hiding(59, 1), 1);
        Check.is("for 60 DAYS", wall.hiding(60, 0) * 10 + wall.hiding(60, 1), 12);
        Check.is("for one DAY", wall.hiding(1, 0) * 10 + wall.hiding(1, 1), 1);
        Check.is("for 0", wall.hiding(0, 0), -1);
        Check.is("for 61", wall.hiding(61, 0), -1);
        Check.is("the last of 60 from DAY 5", bothLate(64, 5).hiding(60, 0), 1);
        Check.is("behind the last of 60 from DAY 5", bothLate(65, 5).hiding(60, 0), 0);
        Check.is("on the first DAY", bothLate(0, 0).hiding(1, 0), 1);
        Check.is("on the second DAY", bothLate(1, 0).hiding(1, 0), 0);
    }

    private static void hidingMost() {
        String hill = "hill 50 50 0;stone 10 3 1;stone 50 3 1;stone 90 3 1;tin 0;seeker 0 3 0 0;seeker 0 6 0 0";
        TinWall wall = Check.told(hill);
        Check.is("where both look", wall.hiding(1, 0), 1);
        Check.is("both", wall.hiding(1, 1), 2);
        wall.figure(90);
        Check.is("where both look then", wall.hiding(1, 0), 2);
        wall.hide(1);
        Check.is("SEEKER 1 FINDS it as second", wall.day(), 1);
        Check.is("who has it now, too", wall.hiding(1, 1), 2);
        Check.is("where SEEKER 0 looks", wall.hiding(1, 0), 2);
        wall.figure(10);
        Check.is("as it is counts likewise", wall.hiding(1, 0), 0);
        wall.hide(0);
        Check.is("there", wall.hiding(1, 0) * 10 + wall.hiding(1, 1), 2);
        TinWall all = Check.told("hill 0 50 0;stone 0 1 1;stone 0 1 1;tin 1;seeker 0 9 0 0");
        Check.is("of several the least", all.hiding(1, 0), 0);
        all.day();
        Check.is("when all have it, the least", all.hiding(1, 0) * 10 + all.hiding(1, 1), 1);
        Check.is("none looks: the least, none", Check.told("hill 0 1 0;stone 0 1 1;stone 0 1 1;tin 1").hiding(9, 0), 0);
        Check.is("none", Check.told("hill 0 1 0;stone 0 1 1;stone 0 1 1;tin 1").hiding(9, 1), 0);
        Check.is("there is none", Check.told("hill 0 1 0;seeker 0 1 1 1").hiding(9, 0), -2);
        Check.is("how many, there", Check.told("hill 0 1 0;seeker 0 1 1 1").hiding(9, 1), -2);
    }

    private static void hidingNotGone() {
        String two = "hill 0 1 0;stone 0 1 1;stone 0 1 1;stone 0 1 1;seeker 0 2 0 0;walker 0";
        Check.is("GONE wherever they FIND it: of these the least", Check.told(two).hiding(1, 0), 0);
        Check.is("one has", Check.told(two).hiding(1, 1), 1);
        String more = "hill 0 2 0;stone 0 1 1;stone 0 1 1;stone 0 1 1;seeker 0 1 0 0;seeker 0 9 0 0;walker 0";
        Check.is("it is GONE at 0", Check.told(more + ";tin 0").ahead(0, 1, 0), -1);
        Check.is("but not at 1", Check.told(more + ";tin 1").ahead(0, 1, 0), 1);
        Check.is("two at 0 are more than one at 1", Check.told(more).hiding(1, 0) * 10 + Check.told(more).hiding(1, 1), 2);
        TinWall worn = Check.told("hill 0 3 0;stone 0 1 1;stone 0 1 1;stone 0 1 1;stone 0 1 1;tin 3;seeker 0 3 0 0;walker 2");
        Check.days(worn, 2);
        Check.is("all three would be GONE: the least", worn.hiding(1, 0), 0);
        worn.rest(2);
        Check.is("not at the one that is not WORN", worn.hiding(1, 0) * 10 + worn.hiding(1, 1), 21);
        worn.rest(1);
        Check.is("of two the least", worn.hiding(1, 0) * 10 + worn.hiding(1, 1), 11);
        worn.rest(0);
        Check.is("of three the least", worn.hiding(1, 0) * 10 + worn.hiding(1, 1), 1);
    }

    // ---- ODDS

    private static void orderOfOdds() {
        TinWall wall = Check.told("hill 0 9 0;stone 0 9 0;stone 0 5 1;stone 0 1 0;stone 0 20 9;seeker 0 1 0 0");
        Check.is("9 by 20 ahead of 1 by 5", wall.order(0, 0), 3);
        Check.is("then 1 by 5", wall.order(0, 1), 1);
        Check.is("those of ODDS 0 never", wall.order(0, 2), -2);
        Check.is("far off", wall.order(0, Integer.MAX_VALUE), -2);
        Check.is("k -1", wall.order(0, -1), -1);
        TinWall ten = Check.told("hill 0 9 0" + ";stone 0 9 1".repeat(10) + ";seeker 0 1 0 0");
        Check.is("the tenth", ten.order(0, 9), 9);
        Check.is("no eleventh", ten.order(0, 10), -2);
        Check.is("none", Check.told("hill 0 9 0;stone 0 9 0;seeker 0 1 0 0").order(0, 0), -2);
        Check.is("without STONES", Check.told("hill 0 9 0;seeker 0 1 0 0").order(0, 0), -2);
        Check.is("whatever PATIENCE they have", Check.told("hill 0 9 0;stone 0 20 1;seeker 0 1 0 0").order(0, 0), 0);
    }

    private static void orderOfSeveralTheLeast() {
        TinWall wall = Check.told("hill 0 9 0;stone 0 6 3;stone 0 4 2;stone 0 2 1;stone 0 18 9;stone 0 5 3;seeker 0 1 0 0");
        int[] due = {4, 0, 1, 2, 3, -2};
        for (int k = 0; k < due.length; k++) {
            Check.is("as great, " + k, wall.order(0, k), due[k]);
        }
        TinWall worn = Check.told("hill 0 50 0;stone 0 6 4;stone 9 5 4;seeker 0 6 0 0;seeker 0 6 0 0");
        Check.is("as MINUTES are at first", worn.order(0, 0) * 10 + worn.order(0, 1), 10);
        Check.days(worn, 2);
        Check.is("as great now, by WEAR 4 of the first", worn.order(0, 0) * 10 + worn.order(0, 1), 1);
        Check.days(worn, 2);
        Check.is("greater now, by WEAR 8", worn.order(0, 0) * 10 + worn.order(0, 1), 1);
        worn.rest(0);
        Check.is("behind a REST", worn.order(0, 0) * 10 + worn.order(0, 1), 10);
        wall = Check.told("hill 0 9 0;stone 0 1 1;stone 0 9 2;stone 0 10 2;seeker 9 1 0 0");
        Check.is("by MINUTES of one at least", wall.order(0, 0) * 100 + wall.order(0, 1) * 10 + wall.order(0, 2), 120);
    }

    private static void mean(String stones, int above, int below) {
        TinWall wall = Check.told("hill 0 9 0" + stones + ";seeker 0 1 0 0");
        Check.is("above, of" + stones, wall.mean(0, 0), above);
        Check.is("below, of" + stones, wall.mean(0, 1), below);
    }

    private static void meanInLowestTerms() {
        mean("", 0, 1);
        mean(";stone 0 9 0", 0, 1);
        mean(";stone 0 9 0;stone 0 1 0", 0, 1);
        mean(";stone 0 9 1", 9, 1);
        mean(";stone 0 9 9", 9, 1);
        mean(";stone 0 1 1;stone 0 1 1", 3, 2);
        mean(";stone 0 1 2;stone 0 1 2", 3, 2);
        mean(";stone 0 3 3;stone 0 6 6;stone 0 20 0", 7, 1);
        mean(";stone 0 2 1;stone 0 4 1;stone 0 6 1", 20, 3);
        mean(";stone 0 20 9".repeat(10), 110, 1);
        Check.is("part 2", Check.told("hill 0 9 0;seeker 0 1 0 0").mean(0, 2), -1);
        Check.is("part -1", Check.told("hill 0 9 0;seeker 0 1 0 0").mean(0, -1), -1);
    }

    private static void gone(TinWall wall, String what, int above, int below) {
        Check.is(what + ", above", wall.gone(0), above);
        Check.is(what + ", below", wall.gone(1), below);
    }

    private static void goneOfNothing() {
        gone(Check.told("hill 0 9 0"), "LOST 0, no STONES", 0, 1);
        gone(Check.told("hill 0 9 99"), "LOST 99, no STONES", 0, 1);
        gone(Check.told("hill 0 9 99;stone 0 1 0"), "no ODDS", 0, 1);
        gone(Check.told("hill 0 9 0;stone 0 1 9"), "LOST 0", 0, 1);
        gone(Check.told("hill 0 9 1;stone 0 1 9"), "LOST 1", 1, 100);
        gone(Check.told("hill 0 9 99;stone 0 1 9"), "LOST 99", 99, 100);
        gone(Check.told("hill 0 9 50;stone 0 1 9"), "LOST 50", 1, 2);
        TinWall all = Check.told("hill 0 9 0;stone 0 1 9;seeker 0 1 0 0");
        all.day();
        gone(all, "LOST 0, all TRIED", 0, 1);
        all = Check.told("hill 0 9 1;stone 0 1 9;seeker 0 1 0 0");
        all.day();
        gone(all, "LOST 1, all TRIED", 1, 1);
        Check.is("what 2", all.gone(2), -1);
        Check.is("what -1", all.gone(-1), -1);
    }

    private static void goneTriedByAnybody() {
        String hill = "hill 0 9 20;stone 0 1 1;stone 9 1 2;stone 20 1 3;stone 30 1 0;seeker 0 1 0 0;seeker 0 2 0 0;tin 1";
        TinWall wall = Check.told(hill);
        gone(wall, "nobody TRIED", 1, 5);
        wall.day();
        gone(wall, "0 and 1 TRIED, it was found at 1", 1, 3);
        wall.forget(1);
        wall.rest(0);
        wall.hide(2);
        gone(wall, "FORGET, REST and HIDE change nothing", 1, 3);
        wall.undo();
        wall.undo();
        wall.undo();
        wall.undo();
        gone(wall, "the DAY UNDONE", 1, 5);
    }

    private static void hint(String stones, int feet, int much) {
        TinWall wall = Check.told("hill 0 1 0" + stones);
        Check.is("HINT of" + stones, wall.hint(0), feet);
        Check.is("how much of" + stones, wall.hint(1), much);
    }

    private static void hintOneToNinetyNine() {
        hint("", 1, 0);
        hint(";stone 50 1 0", 1, 0);
        hint(";stone 0 1 1", 1, 1);
        hint(";stone 99 1 1", 1, 1);
        hint(";stone 0 1 1;stone 99 1 1", 1, 1);
        hint(";stone 0 1 1;stone 1 1 1", 1, 1);
        hint(";stone 1 1 1;stone 2 1 1", 2, 1);
        hint(";stone 97 1 1;stone 98 1 1", 98, 1);
        hint(";stone 98 1 1;stone 99 1 1", 99, 1);
        hint(";stone 99 1 1;stone 98 1 1", 99, 1);
        hint(";stone 99 1 5;stone 99 1 5", 1, 10);
        hint(";stone 10 1 3;stone 20 1 3;stone 30 1 3", 11, 6);
        hint(";stone 10 1 3;stone 20 1 4;stone 30 1 5", 21, 7);
        hint(";stone 10 1 5;stone 20 1 4;stone 30 1 3", 11, 7);
        hint(";stone 10 1 9;stone 20 1 1", 11, 9);
        hint(";stone 50 1 9".repeat(5) + ";stone 60 1 9".repeat(5), 51, 45);
    }

    // ---- THINGS, places, WEAR

    private static void worthNoDayToAHundred() {
        String late = "hill 0 50 0;stone 0 20 1;stone 0 20 1;tin 1;thing 99;thing 1;seeker 0 20 9 0";
        TinWall wall = by(late, "look 1 if stone=1 and day>=99", 0);
        Check.is("now", wall.worth(0), 100);
        Check.is("99 on", wall.worth(99), 100);
        Check.is("100 on", wall.worth(100), 10);
        Check.is("-1", wall.worth(-1), -1);
        Check.is("101", wall.worth(101), -1);
        Check.is("none in it", Check.told("hill 0 1 0;stone 0 1 1;tin 0").worth(100), 0);
        Check.is("six of most", Check.told("hill 0 1 0" + ";thing 99".repeat(6)).worth(0), 594);
        TinWall gone = Check.told("hill 0 1 0;stone 0 1 1;tin 0;thing 9;thing 7;seeker 0 1 8 0;seeker 0 1 0 0;walker 0");
        Check.is("GONE on the first DAY: those that were in it", gone.worth(1), 7);
        Check.is("and on", gone.worth(100), 7);
        gone.day();
        Check.is("GONE now", gone.worth(0), 7);
        Check.is("without a tin", Check.told("hill 0 1 0;thing 9").worth(0), 9);
    }

    private static void wandersBeginsAndBehindTheLast() {
        String hill = "hill 0 9 0;stone 0 20 1;stone 1 20 1;stone 2 20 1;tin 0;seeker 0 20 0 1;seeker 0 20 0 1";
        TinWall wall = by(hill, "look 1 if stone=seeker and [seeker=0 and day>=98 or seeker=1 and day>=99];look 0-1 if stone<2", 0);
        Check.is("98 DAYS: nowhere", wall.wanders(98), 1);
        Check.is("99 DAYS: behind the last", wall.wanders(99), 2);
        Check.is("100 DAYS: behind the last, too", wall.wanders(100), 3);
        Check.is("0", wall.wanders(0), -1);
        Check.is("101", wall.wanders(101), -1);
        TinWall within = by(hill, "look 1 if stone=seeker", 0);
        Check.is("within a DAY it was behind one more", within.wanders(1), 2);
        Check.is("and stays", within.wanders(100), 2);
        TinWall back = Check.told("hill 0 9 0;stone 0 2 1;stone 0 2 1;tin 0;seeker 0 4 0 1;seeker 0 4 0 2");
        Check.is("put back on the same DAY", back.wanders(1), 1);
        TinWall twice = by("hill 0 9 0;stone 0 20 1;stone 1 20 1;tin 0;seeker 0 20 0 1;seeker 0 20 0 2",
            "look 1 if stone=seeker and day=seeker*3", 0);
        Check.is("there and back counts each STONE once", twice.wanders(10), 2);
        Check.is("all ten", by("hill 0 50 0" + ";stone 0 1 1".repeat(10) + ";tin 0;seeker 0 99 0 0", "look 1", 0).wanders(100), 1);
    }

    private static void wandersGoneIsNone() {
        String hill = "hill 0 1 0;stone 0 1 1;stone 0 1 1;tin 0;seeker 0 1 0 0;walker 0";
        TinWall wall = Check.told(hill);
        Check.is("behind one, then GONE", wall.wanders(1), 1);
        wall.day();
        Check.is("GONE from the first", wall.wanders(1), 0);
        Check.is("and on", wall.wanders(100), 0);
        Check.is("without a tin", Check.told("hill 0 1 0;stone 0 1 1").wanders(3), 0);
    }

    private static void showsTwoHundredDays() {
        String many = "hill 0 50 0" + ";stone 1 20 1".repeat(10) + ";seeker 0 20 0 0";
        for (int day = 148; day <= 151; day++) {
            TinWall wall = by(many, "look 1 if day<" + day + " and stone=day%9;look 1 if day>=" + day + " and stone=9", 0);
            Check.is("which, WORN from DAY " + day, wall.shows(0), day < 150 ? 9 : -2);
            Check.is("when, WORN from DAY " + day, wall.shows(1), day < 150 ? day + 50 : -2);
        }
        TinWall later = by(many, "look 1 if day<153 and stone=day%9;look 1 if day>=153 and stone=9", 4);
        Check.is("200 from DAY 4", later.shows(1), 203);
        later = by(many, "look 1 if day<154 and stone=day%9;look 1 if day>=154 and stone=9", 4);
        Check.is("201 from DAY 4", later.shows(1), -2);
    }

    private static void showsNoticeOrMore() {
        TinWall wall = Check.told("hill 0 4 0;stone 9 1 1;stone 0 1 1;seeker 0 1 0 0;seeker 0 1 0 0;seeker 0 1 0 0");
        Check.is("more than NOTICE, at DAY 2", wall.shows(1), 2);
        Check.is("which", wall.shows(0), 1);
        Check.days(wall, 2);
        Check.is("now", wall.shows(1), 2);
        wall.day();
        Check.is("now, too", wall.shows(1), 3);
        wall.rest(1);
        Check.is("behind a REST", wall.shows(1), 5);
        TinWall equal = Check.told("hill 0 2 0;stone 9 1 1;stone 0 1 1;seeker 0 2 0 0");
        Check.is("just NOTICE, of both the least", equal.shows(0), 0);
        Check.is("at DAY 2", equal.shows(1), 2);
        TinWall most = Check.told("hill 0 50 0;stone 0 1 1;seeker 0 1 0 0");
        Check.is("NOTICE 50", most.shows(1), 50);
        Check.is("whatever walkers come", Check.told("hill 0 1 0;stone 0 1 1;tin 0;seeker 0 1 0 0;walker 0").shows(1), 1);
    }

    private static void bare() {
        TinWall wall = Check.told("hill 0 1 0");
        Check.is("ahead", wall.ahead(0, 100, 0), -1);
        Check.is("first", wall.first(0), -2);
        Check.is("hiding", wall.hiding(1, 0), -2);
        Check.is("worth", wall.worth(100), 0);
        Check.is("wanders", wall.wanders(100), 0);
        Check.is("shows", wall.shows(0), -2);
        Check.is("shows, when", wall.shows(1), -2);
        Check.is("today", wall.today(0, -1), -3);
        Check.is("order", wall.order(0, 0), -1);
        Check.is("mean", wall.mean(0, 1), -1);
    }
}
