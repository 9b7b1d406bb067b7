import java.util.Map;

/** The edges of the TAPE, of IMAGES and of a new object (promises 1 to 3, 34, 35, 33). */
public final class ImagesBoundsTest {
    private static final String HILL = "hill 50 9 20;stone 50 4 1;stone 60 4 2;tin 0;thing 9;seeker 0 4 3 1;seeker 0 4 5 1;walker 1";

    private ImagesBoundsTest() {
    }

    public static void main(String[] args) {
        newObject();
        fourHundred();
        ends();
        fourImages();
        ofNothing();
        namesGoBack();
        twentyActsGoBack();
        theseStay();
        goneThenBack();
        anotherHill();
        counts();
        Check.done();
    }

    private static void newObject() {
        Map<String, Integer> all = Seen.all(new TinWall());
        int sum = 0;
        for (int count : all.values()) {
            sum += count;
        }
        Check.is("all counts are 0 but the RULE IN FORCE and the tin", sum, -2);
        Check.is("no RULE IN FORCE", new TinWall().force(-1), -1);
        Check.is("no RULES", new TinWall().force(0), -2);
        TinWall one = new TinWall();
        TinWall other = new TinWall();
        one.seed(9);
        Check.tape(one, "look 1");
        one.rule();
        Check.hill(one, HILL);
        one.image(0);
        Check.same("one object is not another", "" + Seen.all(other), "" + all);
        Check.is("nor are its IMAGES", other.back(0), -1);
    }

    private static void fourHundred() {
        for (int first = 0; first < 20; first++) {
            TinWall wall = new TinWall();
            for (int i = 0; i < 20; i++) {
                wall.feed(0, 0, 0, 0, 0);
            }
            wall.end(360 + first);
            boolean fits = 360 + first + 20 <= 400;
            Check.is("feed behind " + (360 + first), wall.feed(1, 2, 3, 4, 5), fits ? 380 + first : -1);
            Check.is("a second", wall.feed(1, 2, 3, 4, 5), first == 0 ? 400 : -1);
            Check.is("bytes", wall.count(15), first == 0 ? 400 : 380 + first);
        }
        TinWall wall = new TinWall();
        for (int i = 0; i < 25; i++) {
            wall.feed(0x68696c6c, 0x30203120, 0x30202020, 0x20202020, 0x20202020);
        }
        Check.is("400 at most", wall.count(15), 400);
        Check.is("the first bytes are as they came", wall.end(10) * 10 + wall.hill(), 100);
    }

    private static void ends() {
        TinWall wall = new TinWall();
        Check.is("of an empty TAPE 0", wall.end(0), 0);
        Check.is("of an empty TAPE 1", wall.end(1), -1);
        Check.is("of an empty TAPE -1", wall.end(-1), -1);
        wall.feed(1, 2, 3, 4, 5);
        Check.is("20 of 20", wall.end(20), 20);
        Check.is("21 of 20", wall.end(21), -1);
        Check.is("20 still", wall.count(15), 20);
        Check.is("19", wall.end(19), 19);
        Check.is("20 of 19", wall.end(20), -1);
        Check.is("0 of 19", wall.end(0), 0);
        Check.is("1 of 0", wall.end(1), -1);
        Check.is("a text of no byte", wall.hill(), Check.fault(0, 0));
        wall.feed(Integer.MIN_VALUE, Integer.MAX_VALUE, -1, 0, 1);
        Check.is("any numbers are bytes", wall.count(15), 20);
        Check.is("the first can't stand there", wall.rule(), Check.fault(0, 0));
    }

    private static void fourImages() {
        TinWall wall = Check.told(HILL);
        for (int k = 0; k < 4; k++) {
            Check.is("never made", wall.back(k), -1);
        }
        Check.is("image -1", wall.image(-1), -1);
        Check.is("image 4", wall.image(4), -1);
        Check.is("image 0", wall.image(0), 0);
        wall.day();
        Check.is("image 3", wall.image(3), 1);
        Check.is("back 1, never made", wall.back(1), -1);
        Check.is("back 2, never made", wall.back(2), -1);
        Check.is("back 4", wall.back(4), -1);
        Check.is("back -1", wall.back(-1), -1);
        Check.is("DAY", wall.count(8), 1);
        Check.is("back 0", wall.back(0), 0);
        Check.is("back 3", wall.back(3), 1);
        Check.is("back 3 again", wall.back(3), 1);
    }

    private static void ofNothing() {
        TinWall wall = new TinWall();
        Check.is("of nothing", wall.image(2), 0);
        Check.hill(wall, HILL);
        Check.rule(wall, "look 1");
        wall.force(0);
        wall.seed(4);
        wall.name(0, 0);
        Check.days(wall, 3);
        Check.is("back to nothing", wall.back(2), 0);
        TinWall none = new TinWall();
        Check.rule(none, "look 1");
        Check.same("as nothing was", "" + Seen.all(wall), "" + Seen.all(none));
        Check.is("no HILL", wall.day(), -1);
        Check.is("no HILL to ask about", wall.hint(0), -1);
        Check.is("the RULE is there", wall.force(0), -1);
        Check.is("of nothing again", wall.image(0), 0);
        Check.is("back to that", wall.back(0), 0);
        Check.is("IN FORCE without a HILL", wall.count(7), 0);
    }

    private static void namesGoBack() {
        TinWall wall = Check.told(HILL, "look 1 if stone=0 and day>=2;look 0-1 if stone=0", "look 0-off");
        wall.name(2, 0);
        wall.image(1);
        Check.is("as it is", wall.ruled(0) * 100 + (wall.ruled(1) + 1) * 10 + wall.forged(), 110);
        wall.name(-1, 0);
        wall.name(7, 1);
        wall.name(8, 0);
        Check.is("otherwise", wall.forged(), 3);
        Check.is("back", wall.back(1), 0);
        Check.is("NAMES", wall.count(12), 1);
        Check.is("whose and when", wall.ruled(0) * 100 + (wall.ruled(1) + 1) * 10 + wall.forged(), 110);
        Check.is("a second one", wall.name(7, 1), 2);
        Check.is("is forged", wall.forged(), 2);
        wall.back(1);
        Check.is("the IMAGE is as it was", wall.count(12), 1);
    }

    private static void twentyActsGoBack() {
        for (int acts : new int[] {0, 1, 19, 20, 21, 33, 40}) {
            TinWall wall = Check.told(HILL);
            for (int i = 0; i < acts; i++) {
                wall.figure(i % 2 == 0 ? i : 99 - i);
            }
            wall.image(0);
            Check.days(wall, 7);
            wall.image(1);
            Check.days(wall, 17);
            wall.undo();
            Check.is("back", wall.back(0), 0);
            Check.is("what can be UNDONE of " + acts, wall.count(13), Math.min(20, acts));
            for (int i = acts - 1; i >= Math.max(0, acts - 20); i--) {
                Check.is("undo", wall.undo(), i - Math.max(0, acts - 20));
                int figure = i == 0 ? 50 : (i - 1) % 2 == 0 ? i - 1 : 99 - (i - 1);
                Check.is("FIGURE ahead of ACT " + i, wall.count(0), figure);
            }
            Check.is("no more", wall.undo(), -2);
            Check.is("back to the other", wall.back(1), 7);
            Check.is("its ACTS", wall.count(13), Math.min(20, acts + 7));
            for (int day = 6; day >= 0; day--) {
                wall.undo();
                Check.is("its DAYS", wall.count(8), day);
            }
        }
    }

    private static void theseStay() {
        TinWall wall = Check.told(HILL, "look 1", "look stone");
        wall.image(0);
        Check.rule(wall, "look 2");
        Check.rule(wall, "look 3");
        Check.tape(wall, "look 4");
        wall.image(1);
        wall.back(0);
        Check.is("RULES stay", wall.count(6), 4);
        Check.is("the TAPE stays", wall.count(15), 6);
        Check.is("and is a RULE", wall.rule(), 4);
        wall.back(1);
        Check.is("RULES stay again", wall.count(6), 5);
        Check.is("the TAPE stays empty", wall.count(15), 0);
        wall.force(4);
        wall.image(2);
        wall.force(-1);
        wall.back(2);
        Check.is("the RULE IN FORCE", wall.count(7), 4);
        wall.back(0);
        Check.is("none IN FORCE", wall.count(7), -1);
    }

    private static void goneThenBack() {
        TinWall wall = Check.told("hill 50 1 20;stone 50 4 1;stone 60 4 2;tin 0;thing 9;seeker 0 4 3 0;seeker 0 4 5 0;walker 0");
        wall.image(0);
        Map<String, Integer> begin = Seen.all(wall);
        wall.day();
        Check.is("gone", wall.count(9), -1);
        wall.image(1);
        Map<String, Integer> gone = Seen.all(wall);
        wall.hide(1);
        wall.back(0);
        Check.same("as at the begin", Seen.changed(begin, Seen.all(wall)), "");
        wall.day();
        wall.day();
        wall.back(1);
        Check.same("as it was GONE", Seen.changed(gone, Seen.all(wall)), "");
        Check.is("UNDONE from there", wall.undo(), 0);
        Check.same("as at the begin, by undo", Seen.changed(begin, Seen.all(wall)), "");
    }

    private static void anotherHill() {
        TinWall wall = Check.told(HILL);
        wall.image(0);
        String first = "" + Seen.all(wall);
        Check.hill(wall, "hill 1 2 3;stone 1 2 3;stone 2 3 4;stone 3 4 5;tin 2;seeker 1 2 3 2;walker 0");
        wall.image(1);
        String second = "" + Seen.all(wall);
        wall.back(0);
        Check.same("the first HILL", "" + Seen.all(wall), first);
        Check.is("its HINT", wall.hint(0), 51);
        wall.back(1);
        Check.same("the second HILL", "" + Seen.all(wall), second);
        Check.is("its HINT, too", wall.hint(0), 3);
    }

    private static void counts() {
        TinWall wall = Check.told(HILL);
        for (int what : new int[] {-1, 16, 17, Integer.MAX_VALUE, Integer.MIN_VALUE}) {
            Check.is("count " + what, wall.count(what), -1);
            Check.is("count " + what + " of a new object", new TinWall().count(what), -1);
        }
        Check.is("no walkers on DAY 0", wall.count(11), 0);
        wall.day();
        Check.is("walkers on DAY 1", wall.count(11), 1);
        Check.is("who has FOUND it", wall.count(10), 1);
        Check.is("where it is", wall.count(9), 1);
        wall.day();
        Check.is("no walkers on DAY 2", wall.count(11), 0);
    }
}
