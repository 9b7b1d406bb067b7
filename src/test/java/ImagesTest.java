/** Promises 34 and 35: IMAGES, and going back to them. */
public final class ImagesTest {
    private static final String HILL = "hill 50 2 20;stone 50 4 1;stone 60 4 1;tin 0;thing 9;seeker 0 4 3 1;seeker 0 4 5 1;walker 1";

    private ImagesTest() {
    }

    public static void main(String[] args) {
        ofNothing();
        whole();
        whatStays();
        several();
        wrongAsked();
        Check.done();
    }

    private static void ofNothing() {
        TinWall wall = new TinWall();
        wall.seed(4);
        Check.is("where nothing was told", wall.image(3), 0);
        Check.hill(wall, HILL);
        wall.day();
        Check.is("back to it", wall.back(3), 0);
        Check.is("no HILL", wall.day(), -1);
        Check.is("no STONES", wall.count(3), 0);
        Check.is("no tin", wall.count(9), -1);
        Check.is("x", wall.count(14), 4);
        Check.is("nothing to be UNDONE", wall.undo(), -2);
    }

    private static int[] all(TinWall wall) {
        int[] all = new int[40];
        for (int i = 0; i < 15; i++) {
            all[i] = i == 6 ? 0 : wall.count(i);
        }
        for (int i = 0; i < 5; i++) {
            all[15 + i] = wall.stone(0, i);
            all[20 + i] = wall.stone(1, i);
        }
        for (int i = 0; i < 7; i++) {
            all[25 + i] = wall.seeker(0, i);
            all[32 + i] = wall.seeker(1, i);
        }
        all[39] = wall.thing(0);
        return all;
    }

    private static void same(String what, int[] got, int[] due) {
        for (int i = 0; i < due.length; i++) {
            Check.is(what + ", " + i, got[i], due[i]);
        }
    }

    private static void whole() {
        TinWall wall = Check.told(HILL, "look stone", "look 1");
        wall.force(1);
        wall.seed(77);
        wall.name(2, 1);
        wall.name(0, 0);
        int[] begin = all(wall);
        wall.day();
        wall.figure(60);
        wall.rest(0);
        wall.day();
        int[] then = all(wall);
        int ruled = wall.ruled(0);
        Check.is("an IMAGE of DAY 2", wall.image(1), 2);
        wall.force(-1);
        wall.seed(5);
        wall.name(-1, 0);
        for (int i = 0; i < 25; i++) {
            wall.day();
        }
        wall.forget(0);
        Check.hill(wall, "hill 1 1 1;stone 1 1 1");
        wall.figure(44);
        Check.is("back", wall.back(1), 2);
        same("as it was", all(wall), then);
        Check.is("NAMES as they were", wall.ruled(0), ruled);
        for (int left = 3; left >= 0; left--) {
            Check.is("what could be UNDONE", wall.undo(), left);
        }
        same("as at the begin", all(wall), begin);
        Check.is("back again", wall.back(1), 2);
        same("as it was, again", all(wall), then);
        Check.is("ACTS again", wall.count(13), 4);
    }

    private static void whatStays() {
        TinWall wall = Check.told(HILL, "look stone");
        wall.image(0);
        Check.rule(wall, "look 0-stone");
        wall.feed(1, 2, 3, 4, 5);
        wall.image(2);
        wall.force(1);
        Check.is("back", wall.back(0), 0);
        Check.is("RULES stay", wall.count(6), 2);
        Check.is("the TAPE stays", wall.count(15), 20);
        Check.is("the RULE IN FORCE does not", wall.count(7), -1);
        Check.is("force the later one", wall.force(1), -1);
        Check.is("by it", wall.today(0, 0), 0);
        Check.is("an IMAGE made later stays", wall.back(2), 0);
    }

    private static void several() {
        TinWall wall = Check.told(HILL);
        for (int k = 0; k < 4; k++) {
            Check.is("image " + k, wall.image(k), k);
            wall.day();
        }
        for (int k = 3; k >= 0; k--) {
            Check.is("back " + k, wall.back(k), k);
            Check.is("day", wall.count(8), k);
            Check.is("acts", wall.count(13), k);
        }
        wall.figure(7);
        Check.is("in place of the first one", wall.image(3), 0);
        wall.day();
        Check.is("back to the new one", wall.back(3), 0);
        Check.is("its FIGURE", wall.count(0), 7);
        Check.is("its ACTS", wall.count(13), 1);
        Check.is("the others are as they were", wall.back(2), 2);
        Check.is("their FIGURE", wall.count(0), 50);
    }

    private static void wrongAsked() {
        TinWall wall = Check.told(HILL);
        wall.figure(9);
        int[] wrong = {-1, 4, Integer.MIN_VALUE, Integer.MAX_VALUE};
        for (int k : wrong) {
            Check.is("image " + k, wall.image(k), -1);
            Check.is("back " + k, wall.back(k), -1);
        }
        Check.is("never made", wall.back(0), -1);
        Check.is("nothing happens", wall.count(0), 9);
        wall.image(0);
        Check.is("another never made", wall.back(1), -1);
    }
}
