/** Promise 10: a DAY, with LOOKING, MINUTES, swapping, putting back and walkers. */
public final class DayTest {
    private static final String STONES = "hill 50 2 0;stone 40 5 1;stone 50 7 1;stone 62 4 1;";

    private DayTest() {
    }

    public static void main(String[] args) {
        finding();
        patience();
        nearest();
        minutes();
        caps();
        swapping();
        puttingBack();
        walkers();
        oneBehindTheOther();
        withoutMuch();
        fullest();
        Check.done();
    }

    private static void finding() {
        TinWall wall = Check.told(STONES + "tin 2;thing 5;thing 30;thing 30;seeker 0 16 20 0;walker 0");
        Check.is("as many MINUTES as PATIENCE", wall.day(), 1);
        Check.is("wear 0", wall.stone(0, 3), 1);
        Check.is("wear 1", wall.stone(1, 3), 1);
        Check.is("wear 2", wall.stone(2, 3), 1);
        Check.is("who TRIED it", wall.stone(2, 4), 1);
        Check.is("what they carry", wall.seeker(0, 2), 30);
        Check.is("found on", wall.seeker(0, 4), 0);
        Check.is("vain", wall.seeker(0, 5), 0);
        Check.is("tried", wall.seeker(0, 6), 7);
        Check.is("thing 0", wall.thing(0), 5);
        Check.is("thing 1", wall.thing(1), 20);
        Check.is("thing 2", wall.thing(2), 30);
        Check.is("where it is", wall.count(9), 2);
        Check.is("day", wall.count(8), 1);
        Check.is("the next DAY", wall.day(), 0);
        Check.is("who has FOUND it looks no more", wall.stone(1, 3), 1);
        Check.is("nor is there in vain", wall.seeker(0, 5), 0);
        Check.is("day then", wall.count(8), 2);
    }

    private static void patience() {
        TinWall wall = Check.told(STONES + "tin 2;seeker 0 15 20 0");
        Check.is("one MINUTE more than PATIENCE", wall.day(), 0);
        Check.is("tried", wall.seeker(0, 6), 3);
        Check.is("wear of what they did not look at", wall.stone(2, 3), 0);
        Check.is("found on", wall.seeker(0, 4), -1);
        Check.is("vain", wall.seeker(0, 5), 1);
        wall = Check.told(STONES + "tin 2;seeker 0 11 20 0");
        wall.day();
        Check.is("at the first that is more they go", wall.seeker(0, 6), 2);
        wall = Check.told(STONES + "tin 1;seeker 0 6 20 0");
        wall.day();
        Check.is("who looks at nothing", wall.seeker(0, 6), 0);
        Check.is("is there in vain, too", wall.seeker(0, 5), 1);
        wall = Check.told(STONES + "tin 0;seeker 0 99 20 0");
        wall.day();
        Check.is("who FINDS it looks no more", wall.seeker(0, 6), 3);
    }

    private static void nearest() {
        TinWall wall = Check.told("hill 50 2 0;stone 53 1 1;stone 47 1 1;stone 49 1 1;stone 51 1 1;seeker 0 99 20 0");
        int[] due = {2, 3, 0, 1};
        for (int k = 0; k < due.length; k++) {
            Check.is("nearest " + k, wall.today(0, k), due[k]);
        }
    }

    private static void minutes() {
        TinWall wall = Check.told("hill 0 50 0;stone 0 10 1;seeker 0 99 0 0");
        for (int wear = 0; wear <= 50; wear++) {
            Check.is("wear", wall.stone(0, 3), wear);
            Check.is("minutes at wear " + wear, wall.today(0, -1), Math.max(1, 10 - wear / 4));
            wall.day();
        }
        wall = Check.told("hill 0 50 0;stone 0 9 1;seeker 9 1 0 0;seeker 8 1 0 0;seeker 7 1 0 0");
        Check.is("one MINUTE at least", wall.today(0, -1), 1);
        Check.is("one MINUTE", wall.today(1, -1), 1);
        Check.is("two are too many", wall.today(2, -1), 0);
    }

    private static void caps() {
        TinWall wall = Check.told("hill 0 50 0;stone 0 1 1;stone 9 1 1;seeker 0 2 0 0;seeker 0 2 0 0;seeker 0 2 0 0;seeker 0 1 0 0");
        for (int i = 0; i < 24; i++) {
            wall.day();
        }
        Check.is("wear 96", wall.stone(0, 3), 96);
        Check.is("wear 72", wall.stone(1, 3), 72);
        wall.day();
        Check.is("99 at most", wall.stone(0, 3), 99);
        for (int i = 25; i < 99; i++) {
            wall.day();
        }
        Check.is("99 in vain", wall.seeker(3, 5), 99);
        wall.day();
        Check.is("99 in vain at most", wall.seeker(3, 5), 99);
        Check.is("wear of the other", wall.stone(1, 3), 99);
        Check.is("day 100", wall.count(8), 100);
    }

    private static void swapping() {
        TinWall wall = Check.told("hill 0 50 0;stone 0 1 1;tin 0;thing 30;thing 20;seeker 0 9 30 0;seeker 0 9 29 0;seeker 0 9 0 0;seeker 0 9 25 0");
        Check.is("all four FIND it", wall.day(), 4);
        Check.is("of as much WORTH is not swapped", wall.seeker(0, 2), 30);
        Check.is("more is", wall.seeker(1, 2), 30);
        Check.is("of most", wall.seeker(2, 2), 29);
        Check.is("less is not", wall.seeker(3, 2), 25);
        Check.is("in its place", wall.thing(0), 0);
        Check.is("the other stays", wall.thing(1), 20);
        wall = Check.told("hill 0 50 0;stone 0 1 1;tin 0;seeker 0 9 30 0");
        Check.is("nothing in it", wall.day(), 1);
        Check.is("carried then", wall.seeker(0, 2), 30);
    }

    private static void shifted(int from, int shift, int to) {
        TinWall wall = Check.told("hill 0 50 0;stone 0 1 1;stone 0 1 1;stone 0 1 1;tin " + from + ";seeker 0 9 30 " + shift);
        Check.is("found", wall.day(), 1);
        Check.is("put back from " + from + " by " + shift, wall.count(9), to);
    }

    private static void puttingBack() {
        shifted(0, 0, 0);
        shifted(1, 0, 1);
        shifted(0, 1, 1);
        shifted(1, 1, 2);
        shifted(2, 1, 2);
        shifted(2, 2, 1);
        shifted(1, 2, 0);
        shifted(0, 2, 0);
    }

    private static void seen(String more, int day, boolean gone) {
        TinWall wall = Check.told("hill 0 2 0;stone 0 1 1;stone 50 1 1;stone 99 1 1;tin 1;" + more);
        for (int i = 0; i < day; i++) {
            wall.day();
        }
        Check.is("not yet gone: " + more, wall.count(9) == -1 ? 1 : 0, 0);
        wall.day();
        Check.is("then: " + more, wall.count(9) == -1 ? 1 : 0, gone ? 1 : 0);
    }

    private static void walkers() {
        seen("seeker 0 9 0 0;walker 0", 0, false);
        seen("seeker 0 9 0 0;seeker 0 9 0 0;walker 0", 0, true);
        seen("seeker 0 9 0 0;seeker 0 9 0 0;walker 1", 0, false);
        seen("seeker 0 9 0 0;seeker 0 9 0 0;walker 99;walker 1", 1, true);
        seen("seeker 0 9 0 0;seeker 0 9 0 1;walker 0", 0, false);
        seen("seeker 0 9 0 0;seeker 0 9 0 2;walker 0", 0, true);
        seen("seeker 0 9 0 0;seeker 0 9 0 0", 3, false);
        TinWall wall = Check.told("hill 0 1 0;stone 0 1 1;tin 0;thing 7;seeker 0 9 0 0;seeker 0 9 3 0;walker 0");
        wall.day();
        Check.is("gone", wall.count(9), -1);
        Check.is("found ahead of the walkers", wall.count(10), 3);
        wall.forget(0);
        Check.is("nobody FINDS what is gone", wall.day(), 0);
        Check.is("in vain", wall.seeker(0, 5), 1);
        Check.is("wear goes on", wall.stone(0, 3), 3);
    }

    private static void oneBehindTheOther() {
        TinWall wall = Check.told("hill 0 50 0;stone 0 5 1;stone 50 5 1;stone 99 5 1;tin 0;seeker 0 5 0 1;seeker 0 5 0 0;seeker 0 10 0 1;seeker 0 15 0 0");
        Check.is("one takes it from the others", wall.day(), 3);
        Check.is("who", wall.count(10), 13);
        Check.is("where it is", wall.count(9), 2);
        Check.is("wear 0", wall.stone(0, 3), 4);
        Check.is("wear 1", wall.stone(1, 3), 2);
        Check.is("wear 2", wall.stone(2, 3), 1);
        wall = Check.told("hill 0 50 0;stone 0 2 1;tin 0;seeker 0 1 0 0;seeker 0 2 0 0;seeker 0 2 0 0;seeker 0 2 0 0");
        Check.is("three FIND it", wall.day(), 3);
        Check.is("WEAR 3 is no MINUTE yet", wall.seeker(0, 4), -1);
        Check.is("nobody", wall.day(), 0);
        wall.forget(3);
        Check.is("the last one again", wall.day(), 1);
        Check.is("WEAR 4 is a MINUTE", wall.day(), 1);
        Check.is("on this DAY", wall.seeker(0, 4), 3);
    }

    /** As many STONES, THINGS, SEEKERS and walkers as there can be. */
    private static void fullest() {
        StringBuilder text = new StringBuilder("hill 0 4 0");
        text.append(";stone 9 1 1".repeat(10)).append(";tin 9");
        for (int i = 0; i < 6; i++) {
            text.append(";thing 9" + i);
        }
        text.append(";seeker 0 10 0 1".repeat(4));
        for (int i = 7; i >= 0; i--) {
            text.append(";walker " + i);
        }
        TinWall wall = Check.told(text.toString());
        Check.is("the last STONE they look at", wall.today(3, 9), 9);
        Check.is("no eleventh", wall.today(3, 10), -2);
        Check.is("the last in ORDER", wall.order(3, 9), 9);
        Check.is("behind the last STONE", wall.hiding(1, 0), 0);
        Check.is("WORTH of six", wall.worth(0), 555);
        Check.is("GONE of ten", wall.gone(0), 0);
        Check.is("GONE of ten, below", wall.gone(1), 1);
        Check.is("HINT of ten", wall.hint(0), 1);
        Check.is("HINT of ten, how much", wall.hint(1), 10);
        Check.is("MEAN of ten", wall.mean(0, 0), 11);
        Check.is("MEAN of ten, below", wall.mean(0, 1), 2);
        Check.is("SHOWS of ten", wall.shows(0), 0);
        Check.is("all FIND it", wall.day(), 4);
        Check.is("gone by the last walkers told", wall.count(9), -1);
        int[] things = {90, 91, 0, 0, 0, 0};
        for (int i = 0; i < 6; i++) {
            Check.is("thing " + i, wall.thing(i), things[i]);
        }
        Check.is("the last SEEKER carries", wall.seeker(3, 2), 92);
        Check.is("the last STONE was TRIED by all", wall.stone(9, 4), 15);
        Check.is("the last SEEKER TRIED all", wall.seeker(3, 6), 1023);
        Check.is("WEAR", wall.stone(9, 3), 4);
        Check.is("walkers on DAY 7", wall.day() + wall.day() + wall.day() + wall.day() + wall.day() + wall.day() + wall.count(11), 1);
        wall.day();
        Check.is("none on DAY 8", wall.count(11), 0);
    }

    private static void withoutMuch() {
        TinWall wall = new TinWall();
        Check.is("without a HILL", wall.day(), -1);
        Check.is("DAY stays", wall.count(8), 0);
        wall = Check.told("hill 0 50 0;seeker 0 9 3 1;walker 0");
        Check.is("without STONES", wall.day(), 0);
        Check.is("in vain", wall.seeker(0, 5), 1);
        wall = Check.told("hill 0 50 0;stone 1 1 1;tin 0;walker 0");
        Check.is("without SEEKERS", wall.day(), 0);
        Check.is("DAY", wall.count(8), 1);
        Check.is("there", wall.count(9), 0);
    }
}
