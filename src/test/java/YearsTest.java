/** Promises 31 and 32: seed, and YEARS by DRAWS. From x 0 on the DRAWS mod 100 are 0, 68, 88, 17, 98, 27, 45, 41, 22, 10. */
public final class YearsTest {
    private static final String ONE = "hill 0 1 0;stone 0 1 1;tin 0;seeker 0 1 0 0";
    /** SEEKER 1 comes to the STONE of the tin on DAY 1. */
    private static final String TWO = "hill 0 1 0;stone 0 20 1;stone 0 20 1;tin 0;seeker 0 20 0 0;seeker 0 20 0 0";
    private static final String LATE = "look 1 if day<1 and stone=seeker;look 1 if day>=1 and stone=0";

    private YearsTest() {
    }

    public static void main(String[] args) {
        seed();
        draws();
        onAndOn();
        found();
        asTold();
        wrongAsked();
        Check.done();
    }

    private static void seed() {
        TinWall wall = new TinWall();
        Check.is("x at first", wall.seed(5), 0);
        Check.is("seed -1", wall.seed(-1), -1);
        Check.is("seed far below", wall.seed(Integer.MIN_VALUE), -1);
        Check.is("x stays", wall.count(14), 5);
        Check.is("the greatest", wall.seed(Integer.MAX_VALUE), 5);
        Check.is("x", wall.count(14), Integer.MAX_VALUE);
        Check.is("seed 0", wall.seed(0), Integer.MAX_VALUE);
    }

    private static void draws() {
        TinWall wall = Check.told(ONE);
        Check.is("0 is below 1", wall.years(1, 1, 1, 0), 1);
        Check.is("nothing is below 0", wall.years(1, 1, 0, 0), 0);
        wall.seed(Integer.MAX_VALUE);
        Check.is("29 is not below 29", wall.years(1, 1, 29, 0), 0);
        Check.is("29 is below 30", wall.years(1, 1, 30, 0), 1);
        wall.seed(1);
        Check.is("38 is not below 38", wall.years(1, 1, 38, 0), 0);
        Check.is("38 is below 39", wall.years(1, 1, 39, 0), 1);
        Check.is("x as it was", wall.count(14), 1);
        Check.is("all is below 100", wall.years(10, 60, 100, 0), 10);
    }

    private static void onAndOn() {
        TinWall wall = Check.told(ONE);
        Check.is("68 is not below 68", wall.years(2, 1, 68, 0), 1);
        Check.is("68 is below 69", wall.years(2, 1, 69, 0), 2);
        Check.is("of ten below 28", wall.years(10, 1, 28, 0), 5);
        Check.is("17 is below 18", wall.years(2, 2, 18, 0), 2);
        Check.is("17 is not below 17", wall.years(2, 2, 17, 0), 1);
        Check.is("the same again", wall.years(2, 2, 17, 0), 1);
        wall.day();
        Check.is("where nobody looks any more", wall.years(10, 1, 28, 0), 5);
        TinWall gone = Check.told("hill 0 1 0;stone 0 1 1;seeker 0 1 0 0");
        Check.is("gone at first", gone.years(7, 3, 0, 0), 7);
        Check.is("found by nobody", gone.years(7, 3, 0, 1), 0);
    }

    private static void found() {
        TinWall wall = Check.told(TWO, LATE);
        wall.force(0);
        Check.is("one of them, then both", wall.years(2, 2, 18, 1), 3);
        Check.is("gone both times", wall.years(2, 2, 18, 0), 2);
        Check.is("each time both", wall.years(10, 2, 0, 1), 20);
        Check.is("in one DAY", wall.years(10, 1, 0, 1), 10);
        wall.day();
        Check.is("who had it is not found in them", wall.years(3, 1, 0, 1), 3);
        wall.day();
        Check.is("all have it", wall.years(10, 60, 50, 1), 0);
        Check.is("nothing changes", wall.count(8) * 10 + wall.count(10), 23);
    }

    private static void asTold() {
        TinWall wall = Check.told(TWO + ";walker 0", LATE);
        wall.force(0);
        Check.is("walkers as told", wall.years(4, 1, 0, 0), 4);
        Check.is("ahead of the second", wall.years(4, 2, 0, 1), 4);
        wall = Check.told(TWO + ";walker 1", LATE);
        wall.force(0);
        Check.is("walkers on DAY 1", wall.years(4, 1, 0, 0), 0);
        Check.is("a DAY more", wall.years(4, 2, 0, 0), 4);
        wall.day();
        Check.is("from now on", wall.years(4, 1, 0, 0), 4);
        Check.is("not yet GONE", wall.count(9), 0);
    }

    private static void wrongAsked() {
        TinWall wall = Check.told(ONE);
        int[][] wrong = {{0, 1, 0, 0}, {11, 1, 0, 0}, {1, 0, 0, 0}, {1, 61, 0, 0}, {1, 1, -1, 0}, {1, 1, 101, 0}, {1, 1, 0, -1}, {1, 1, 0, 2}};
        for (int[] w : wrong) {
            Check.is("years " + w[0] + " " + w[1] + " " + w[2] + " " + w[3], wall.years(w[0], w[1], w[2], w[3]), -1);
        }
        Check.is("far off", wall.years(Integer.MAX_VALUE, Integer.MAX_VALUE, Integer.MAX_VALUE, 0), -1);
        Check.is("without a HILL", new TinWall().years(1, 1, 0, 0), -1);
    }
}
