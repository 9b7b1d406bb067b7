/** Promises 11 to 15: HIDE, REST, FIGURE, FORGET, and UNDOING them and DAYS. */
public final class ActsTest {
    private static final String HILL = "hill 50 1 0;stone 50 4 1;stone 60 4 1;tin 0;thing 9;seeker 0 4 3 1;seeker 0 4 5 1;walker 0;walker 5";

    private ActsTest() {
    }

    public static void main(String[] args) {
        hide();
        rest();
        figure();
        forget();
        undo();
        twenty();
        notActs();
        Check.done();
    }

    private static void hide() {
        TinWall wall = Check.told(HILL);
        Check.is("hide where it is", wall.hide(0), -2);
        Check.is("hide 2", wall.hide(2), -2);
        Check.is("hide -1", wall.hide(-1), -2);
        Check.is("hide far off", wall.hide(Integer.MAX_VALUE), -2);
        Check.is("no ACT", wall.count(13), 0);
        Check.is("hide 1", wall.hide(1), 0);
        Check.is("where it is", wall.count(9), 1);
        Check.is("hide 0", wall.hide(0), 1);
        Check.is("ACTS", wall.count(13), 2);
        TinWall gone = Check.told("hill 50 1 0;stone 50 4 1;stone 60 4 1;tin 0;thing 9;seeker 0 4 3 0;walker 0");
        gone.day();
        Check.is("gone", gone.count(9), -1);
        Check.is("a new one", gone.hide(0), -1);
        Check.is("where the new one is", gone.count(9), 0);
        Check.is("the THINGS as they were", gone.thing(0), 3);
        TinWall without = Check.told("hill 50 1 0;stone 50 4 1;thing 8;seeker 0 4 3 0");
        Check.is("hide, without a tin", without.hide(0), -1);
        Check.is("they FIND it", without.day(), 1);
        Check.is("what they carry", without.seeker(0, 2), 8);
    }

    private static void rest() {
        TinWall wall = Check.told(HILL);
        Check.is("rest without WEAR", wall.rest(0), -1);
        wall.day();
        Check.is("wear", wall.stone(0, 3), 2);
        Check.is("rest 1 without WEAR", wall.rest(1), -1);
        Check.is("rest 2", wall.rest(2), -1);
        Check.is("rest -1", wall.rest(-1), -1);
        Check.is("ACTS", wall.count(13), 1);
        Check.is("rest 0", wall.rest(0), 2);
        Check.is("wear then", wall.stone(0, 3), 0);
        Check.is("who TRIED it stays", wall.stone(0, 4), 3);
        Check.is("rest 0 again", wall.rest(0), -1);
        Check.is("ACTS then", wall.count(13), 2);
    }

    private static void figure() {
        TinWall wall = Check.told(HILL);
        Check.is("the same FIGURE", wall.figure(50), -1);
        Check.is("figure -1", wall.figure(-1), -1);
        Check.is("figure 100", wall.figure(100), -1);
        Check.is("no ACT", wall.count(13), 0);
        Check.is("figure 99", wall.figure(99), 50);
        Check.is("figure 0", wall.figure(0), 99);
        Check.is("which it is", wall.count(0), 0);
        Check.is("figure 60", wall.figure(60), 0);
        Check.is("they look elsewhere", wall.today(0, 0), 1);
        TinWall none = new TinWall();
        Check.is("without a HILL", none.figure(5), -1);
        Check.is("nothing happens", none.count(0), 0);
    }

    private static void forget() {
        TinWall wall = Check.told(HILL);
        Check.is("forget who has not FOUND it", wall.forget(0), -1);
        Check.is("one FINDS it", wall.day(), 1);
        wall.day();
        wall.forget(0);
        Check.is("in vain", wall.seeker(1, 5), 2);
        Check.is("forget who has not", wall.forget(1), -1);
        Check.is("forget 2", wall.forget(2), -1);
        Check.is("forget -1", wall.forget(-1), -1);
        Check.is("forgotten", wall.seeker(0, 4), -1);
        Check.is("tried stays", wall.seeker(0, 6), 1);
        Check.is("what they carry stays", wall.seeker(0, 2), 9);
        wall.hide(0);
        wall.day();
        Check.is("found again on DAY 2", wall.forget(0), 2);
        Check.is("nobody has it", wall.count(10), 0);
        TinWall vain = Check.told("hill 60 1 0;stone 50 4 1;stone 60 4 1;tin 0;seeker 0 4 3 0");
        vain.day();
        vain.figure(50);
        vain.day();
        Check.is("found on DAY 1", vain.forget(0), 1);
        Check.is("VAIN stays", vain.seeker(0, 5), 1);
    }

    private static void undo() {
        TinWall wall = Check.told(HILL);
        Check.is("nothing to be UNDONE", wall.undo(), -2);
        wall.day();
        wall.rest(0);
        wall.figure(60);
        wall.forget(0);
        wall.hide(0);
        Check.is("UNDO of HIDE", wall.undo(), 4);
        Check.is("where it is", wall.count(9), 1);
        Check.is("UNDO of FORGET", wall.undo(), 3);
        Check.is("found on", wall.seeker(0, 4), 0);
        Check.is("UNDO of FIGURE", wall.undo(), 2);
        Check.is("figure", wall.count(0), 50);
        Check.is("UNDO of REST", wall.undo(), 1);
        Check.is("wear", wall.stone(0, 3), 2);
        Check.is("thing", wall.thing(0), 3);
        Check.is("vain", wall.seeker(1, 5), 1);
        Check.is("UNDO of a DAY", wall.undo(), 0);
        int[] due = {50, 1, 0, 2, 1, 2, 0, -1, 0, 0, 0, 1, 0, 0, 0, 0};
        for (int what = 0; what < due.length; what++) {
            Check.is("count " + what + " as at the begin", wall.count(what), due[what]);
        }
        Check.is("wear at the begin", wall.stone(0, 3), 0);
        Check.is("nobody TRIED it", wall.stone(0, 4), 0);
        Check.is("thing at the begin", wall.thing(0), 9);
        Check.is("carried at the begin", wall.seeker(0, 2), 3);
        Check.is("vain at the begin", wall.seeker(1, 5), 0);
        Check.is("found at the begin", wall.seeker(0, 4), -1);
        Check.is("no more", wall.undo(), -2);
    }

    private static void twenty() {
        TinWall wall = Check.told(HILL);
        for (int figure = 1; figure <= 33; figure++) {
            wall.figure(figure);
            Check.is("ACTS", wall.count(13), Math.min(20, figure));
        }
        for (int left = 19; left >= 10; left--) {
            Check.is("undo", wall.undo(), left);
            Check.is("figure", wall.count(0), 13 + left);
        }
        wall.figure(99);
        Check.is("acts then", wall.count(13), 11);
        for (int left = 10; left >= 0; left--) {
            Check.is("undo again", wall.undo(), left);
            Check.is("figure again", wall.count(0), 13 + left);
        }
        Check.is("the last 20 alone", wall.undo(), -2);
        Check.is("figure at last", wall.count(0), 13);
    }

    private static void notActs() {
        TinWall wall = Check.told(HILL, "look 1");
        wall.figure(40);
        wall.name(3, 0);
        wall.seed(8);
        wall.force(0);
        wall.feed(1, 2, 3, 4, 5);
        wall.image(0);
        wall.first(0);
        wall.years(2, 2, 50, 0);
        Check.is("one ACT alone", wall.undo(), 0);
        Check.is("names stay", wall.count(12), 1);
        Check.is("x stays", wall.count(14), 8);
        Check.is("the RULE IN FORCE stays", wall.count(7), 0);
        Check.is("the TAPE stays", wall.count(15), 20);
    }
}
