/** Promises 20 to 23: ORDER, MEAN, GONE, HINT. */
public final class OddsTest {
    private static final String HILL = "hill 0 9 20;stone 10 4 2;stone 20 6 3;stone 30 5 0;stone 40 2 2;stone 50 9 9;"
        + "seeker 1 2 0 0;seeker 9 9 0 0;seeker 0 1 0 0";

    private OddsTest() {
    }

    public static void main(String[] args) {
        order();
        mean();
        asNow();
        gone();
        hint();
        wrongAsked();
        Check.done();
    }

    private static void order() {
        TinWall wall = Check.told(HILL);
        int[][] due = {{3, 4, 0, 1, -2, -2}, {4, 1, 0, 3, -2, -2}, {3, 4, 0, 1, -2, -2}};
        for (int seeker = 0; seeker < 3; seeker++) {
            for (int k = 0; k < 6; k++) {
                Check.is("order " + seeker + " " + k, wall.order(seeker, k), due[seeker][k]);
            }
        }
        Check.is("far off", wall.order(0, Integer.MAX_VALUE), -2);
        wall = Check.told("hill 0 9 0;stone 0 7 0;stone 0 5 4;stone 0 4 3;stone 0 5 4;stone 0 8 6;seeker 0 1 0 0");
        int[] close = {1, 3, 2, 4, -2};
        for (int k = 0; k < close.length; k++) {
            Check.is("close " + k, wall.order(0, k), close[k]);
        }
        Check.is("without ODDS", Check.told("hill 0 9 0;stone 0 7 0;seeker 0 1 0 0").order(0, 0), -2);
        Check.is("ODDS 1", Check.told("hill 0 9 0;stone 0 7 1;seeker 0 1 0 0").order(0, 0), 0);
    }

    private static void fraction(String what, int above, int below, int dueAbove, int dueBelow) {
        Check.is(what + " above", above, dueAbove);
        Check.is(what + " below", below, dueBelow);
    }

    private static void mean() {
        TinWall wall = Check.told(HILL);
        fraction("SKILL 1", wall.mean(0, 0), wall.mean(0, 1), 79, 8);
        fraction("SKILL 9", wall.mean(1, 0), wall.mean(1, 1), 29, 16);
        fraction("SKILL 0", wall.mean(2, 0), wall.mean(2, 1), 49, 4);
        wall = Check.told("hill 0 9 0;stone 0 7 0;seeker 0 1 0 0");
        fraction("without ODDS", wall.mean(0, 0), wall.mean(0, 1), 0, 1);
        wall = Check.told("hill 0 9 0;stone 0 7 4;stone 0 7 4;seeker 1 1 0 0");
        fraction("a whole number", wall.mean(0, 0), wall.mean(0, 1), 9, 1);
    }

    private static void asNow() {
        TinWall wall = Check.told("hill 0 50 0;stone 0 6 5;stone 9 5 4;seeker 0 6 0 0;seeker 0 6 0 0");
        Check.is("at first", wall.order(0, 0), 0);
        fraction("at first", wall.mean(0, 0), wall.mean(0, 1), 74, 9);
        wall.figure(9);
        for (int i = 0; i < 2; i++) {
            wall.day();
        }
        Check.is("WEAR 4", wall.stone(1, 3), 4);
        Check.is("then", wall.order(0, 0), 1);
        fraction("then", wall.mean(0, 0), wall.mean(0, 1), 22, 3);
    }

    private static void gone() {
        TinWall wall = Check.told(HILL);
        fraction("at first", wall.gone(0), wall.gone(1), 1, 5);
        wall.figure(50);
        wall.day();
        Check.is("SEEKER 1 looked far", wall.seeker(1, 6), 31);
        fraction("all TRIED", wall.gone(0), wall.gone(1), 1, 1);
        wall = Check.told("hill 50 9 20;stone 10 4 2;stone 20 6 3;stone 30 5 0;stone 40 2 2;stone 50 9 9;seeker 0 9 0 0;tin 4");
        Check.is("found there", wall.day(), 1);
        fraction("one TRIED", wall.gone(0), wall.gone(1), 4, 11);
        wall.rest(4);
        wall.forget(0);
        fraction("TRIED stays", wall.gone(0), wall.gone(1), 4, 11);
        wall = Check.told("hill 0 9 0;stone 0 1 5;seeker 0 9 0 0");
        fraction("LOST 0", wall.gone(0), wall.gone(1), 0, 1);
        wall.day();
        fraction("LOST 0, all TRIED", wall.gone(0), wall.gone(1), 0, 1);
        wall = Check.told("hill 0 9 50;stone 0 1 0");
        fraction("without ODDS", wall.gone(0), wall.gone(1), 0, 1);
        wall = Check.told("hill 0 9 99");
        fraction("without STONES", wall.gone(0), wall.gone(1), 0, 1);
        wall = Check.told("hill 0 9 99;stone 0 1 9");
        fraction("LOST 99", wall.gone(0), wall.gone(1), 99, 100);
    }

    private static void hinted(String stones, int feet, int greater) {
        TinWall wall = Check.told("hill 0 1 0" + stones);
        Check.is("hint of " + stones, wall.hint(0), feet);
        Check.is("how much of " + stones, wall.hint(1), greater);
    }

    private static void hint() {
        hinted(";stone 10 4 2;stone 20 6 3;stone 30 5 0;stone 40 2 2;stone 50 9 9", 41, 9);
        hinted(";stone 0 1 5;stone 99 1 5", 1, 5);
        hinted(";stone 98 1 5;stone 99 1 5", 99, 5);
        hinted(";stone 99 1 5", 1, 5);
        hinted(";stone 0 1 5", 1, 5);
        hinted(";stone 50 1 5;stone 50 1 4", 1, 9);
        hinted(";stone 60 1 3;stone 30 1 3;stone 80 1 3", 31, 6);
        hinted(";stone 60 1 0", 1, 0);
        hinted(";stone 1 1 5;stone 9 1 5", 2, 5);
        hinted("", 1, 0);
    }

    private static void wrongAsked() {
        TinWall wall = Check.told(HILL);
        TinWall none = new TinWall();
        int[] wrong = {-1, 2, Integer.MIN_VALUE, Integer.MAX_VALUE};
        for (int what : wrong) {
            Check.is("mean part " + what, wall.mean(0, what), -1);
            Check.is("gone " + what, wall.gone(what), -1);
            Check.is("hint " + what, wall.hint(what), -1);
        }
        Check.is("order k -1", wall.order(0, -1), -1);
        Check.is("order 3", wall.order(3, 0), -1);
        Check.is("order -1", wall.order(-1, 0), -1);
        Check.is("mean 3", wall.mean(3, 0), -1);
        Check.is("mean -1", wall.mean(-1, 0), -1);
        Check.is("order without a HILL", none.order(0, 0), -1);
        Check.is("mean without a HILL", none.mean(0, 0), -1);
        Check.is("gone without a HILL", none.gone(1), -1);
        Check.is("hint without a HILL", none.hint(1), -1);
    }
}
