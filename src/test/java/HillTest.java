/** Promises 4 and 7 to 9: telling a HILL, its FAULTS, what it tells of STONES, SEEKERS and THINGS. */
public final class HillTest {
    private static final String HILL = "hill 0 1 0";

    private HillTest() {
    }

    public static void main(String[] args) {
        told();
        numbers();
        places();
        tooMany();
        replaced();
        faulty();
        wrongAsked();
        Check.done();
    }

    private static void fault(String text, int place, int kind) {
        Check.is(text, Check.hill(new TinWall(), text), Check.fault(place, kind));
    }

    private static void told(String text, int stones) {
        Check.is(text, Check.hill(new TinWall(), text), stones);
    }

    private static void told() {
        TinWall wall = Check.told("hill 50 3 20;stone 40 5 1;seeker 2 9 20 1;thing 7;stone 60 6 2;tin 0;thing 9;tin 1;seeker 0 99 0 2");
        int[][] stones = {{40, 5, 1, 0, 0, -1}, {60, 6, 2, 0, 0, -1}};
        int[][] seekers = {{2, 9, 20, 1, -1, 0, 0, -2}, {0, 99, 0, 2, -1, 0, 0, -2}};
        for (int i = 0; i < 2; i++) {
            for (int what = 0; what < 6; what++) {
                Check.is("stone " + i + " " + what, wall.stone(i, what), stones[i][what]);
            }
            for (int what = 0; what < 8; what++) {
                Check.is("seeker " + i + " " + what, wall.seeker(i, what), seekers[i][what]);
            }
        }
        Check.is("thing 0", wall.thing(0), 7);
        Check.is("thing 1", wall.thing(1), 9);
        Check.is("of several tins the last", wall.count(9), 1);
        Check.is("without a tin", Check.told(HILL + ";stone 1 1 1").count(9), -1);
    }

    private static void numbers() {
        told("hill 0 1 0", 0);
        told("hill 99 50 99", 0);
        told("hill 00099 00050 00000", 0);
        fault("hill 000099 1 0", 5, 1);
        fault("hill 100 1 0", 5, 1);
        fault("hill 0 0 0", 7, 1);
        fault("hill 0 51 0", 7, 1);
        fault("hill 0 1 100", 9, 1);
        fault("hill 9999999999999999999 1 0", 5, 1);
        told(HILL + ";stone 99 20 9", 1);
        told(HILL + ";stone 0 1 0", 1);
        fault(HILL + ";stone 100 20 9", 17, 1);
        fault(HILL + ";stone 99 0 9", 20, 1);
        fault(HILL + ";stone 99 21 9", 20, 1);
        fault(HILL + ";stone 99 20 10", 23, 1);
        told(HILL + ";stone 1 1 1;tin 0", 1);
        fault(HILL + ";stone 1 1 1;tin 1", 27, 1);
        fault(HILL + ";tin 0;stone 1 1 1", 15, 1);
        told(HILL + ";thing 0;thing 99", 0);
        fault(HILL + ";thing 100", 17, 1);
        told(HILL + ";seeker 9 99 99 2;seeker 0 1 0 0", 0);
        fault(HILL + ";seeker 10 99 99 2", 18, 1);
        fault(HILL + ";seeker 9 0 99 2", 20, 1);
        fault(HILL + ";seeker 9 100 99 2", 20, 1);
        fault(HILL + ";seeker 9 99 100 2", 23, 1);
        fault(HILL + ";seeker 9 99 99 3", 26, 1);
        told(HILL + ";walker 0;walker 99", 0);
        fault(HILL + ";walker 100", 18, 1);
    }

    private static void places() {
        fault("", 0, 0);
        fault("   ", 3, 0);
        fault("hill", 4, 0);
        fault("hill 0 1", 8, 0);
        fault("hill 0 1  ", 10, 0);
        fault("hill 0 1 0;", 11, 0);
        fault("hill 0 1 0 0", 11, 0);
        fault("hill 0 1 0,", 10, 0);
        fault("hill -1 1 0", 5, 0);
        fault("hill x 1 0", 5, 0);
        fault("hills 0 1 0", 0, 0);
        fault("hil 0 1 0", 0, 0);
        fault("Hill 0 1 0", 0, 0);
        fault("hill 0 1 0;look 1", 11, 0);
        fault("hill 0 1 0;;", 11, 0);
        fault("hill 0 1 0;st one 1 1 1", 11, 0);
        fault("hill\t0 1 0", 4, 0);
        fault("hill 0 1 0;thingz 1", 11, 0);
        fault("hill 0 1 0;thinga 1", 11, 0);
        fault("hill 0 1 0;thing{ 1", 16, 0);
        fault("hill 0 1 0;thing` 1", 16, 0);
        told("hill0 1 0", 0);
        told("hill 0 1" + " ".repeat(391) + "0", 0);
        told("hill 0 1 0" + " ".repeat(390), 0);
        fault("hill 0 1" + " ".repeat(388) + "0;ti", 398, 0);
        fault("hill 0 1" + " ".repeat(387) + "0;tin", 400, 0);
        told("  hill  0   1 0  ;  stone1 1 1 ;tin0;thing1;walker 1  ", 1);
    }

    private static void tooMany() {
        fault("stone 1 1 1", 0, 4);
        fault("  tin 0", 2, 4);
        fault("stones 1 1 1", 0, 0);
        fault(HILL + "; " + HILL, 12, 4);
        repeated(";stone 1 1 1", 10, 10);
        repeated(";thing 1", 6, 0);
        repeated(";seeker 1 1 1 1", 4, 0);
        repeated(";walker 1", 8, 0);
        String forty = HILL + ";stone 1 1 1" + ";tin 0".repeat(38);
        told(forty, 1);
        fault(forty + "; tin 0", forty.length() + 2, 4);
        fault(forty + "; tim 0", forty.length() + 2, 0);
        fault(forty + ";", forty.length() + 1, 0);
        fault(forty + "; hill 1 1 1", forty.length() + 2, 4);
    }

    private static void repeated(String clause, int most, int stones) {
        String full = HILL + clause.repeat(most);
        told(full, stones);
        fault(full + clause, full.length() + 1, 4);
    }

    private static void replaced() {
        TinWall wall = Check.told("hill 50 3 20;stone 50 5 1;stone 60 5 1;tin 0;thing 9;seeker 0 9 1 0;walker 1", "look 1");
        wall.force(0);
        wall.seed(5);
        wall.name(0, 0);
        wall.image(2);
        wall.day();
        wall.figure(7);
        Check.is("the next HILL", Check.hill(wall, "hill 9 8 7;stone 1 2 3;seeker 3 4 5 2"), 1);
        int[] due = {9, 8, 7, 1, 0, 1, 1, 0, 0, -1, 0, 0, 0, 0, 5, 0};
        for (int what = 0; what < due.length; what++) {
            Check.is("count " + what + " of the next HILL", wall.count(what), due[what]);
        }
        Check.is("no WEAR", wall.stone(0, 3), 0);
        Check.is("nobody TRIED", wall.stone(0, 4), 0);
        Check.is("worth carried", wall.seeker(0, 2), 5);
        Check.is("nothing to be UNDONE", wall.undo(), -2);
        Check.is("IMAGES stay", wall.back(2), 0);
        Check.is("figure of the IMAGE", wall.count(0), 50);
        Check.is("names of the IMAGE", wall.count(12), 1);
    }

    private static void faulty() {
        TinWall wall = Check.told("hill 50 3 20;stone 50 5 1;tin 0;seeker 0 9 1 0");
        wall.name(0, 0);
        wall.day();
        Check.is("a faulty HILL", Check.hill(wall, "hill 1 1 1;stone 1 1 1;stone 1 1 x"), Check.fault(33, 0));
        Check.is("the TAPE is empty", wall.count(15), 0);
        Check.is("figure", wall.count(0), 50);
        Check.is("stones", wall.count(3), 1);
        Check.is("names", wall.count(12), 1);
        Check.is("day", wall.count(8), 1);
        Check.is("acts", wall.count(13), 1);
        Check.is("feet", wall.stone(0, 0), 50);
        Check.is("found", wall.seeker(0, 4), 0);
        TinWall none = new TinWall();
        Check.hill(none, "hill 1 1 1;x");
        Check.is("no HILL then", none.day(), -1);
    }

    private static void wrongAsked() {
        TinWall wall = Check.told(HILL + ";stone 1 1 1;thing 5;seeker 1 1 1 1");
        int[] wrong = {-1, 1, 10, Integer.MIN_VALUE, Integer.MAX_VALUE};
        for (int number : wrong) {
            Check.is("stone " + number, wall.stone(number, 0), -1);
            Check.is("seeker " + number, wall.seeker(number, 0), -2);
            Check.is("thing " + number, wall.thing(number), -1);
        }
        Check.is("stone what -1", wall.stone(0, -1), -1);
        Check.is("stone what 5", wall.stone(0, 5), -1);
        Check.is("seeker what -1", wall.seeker(0, -1), -2);
        Check.is("seeker what 7", wall.seeker(0, 7), -2);
    }
}
