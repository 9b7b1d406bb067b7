/**
 * DAY 999, "999 at most": day answers NONE there, and what is asked goes on beyond. No run of 512 calls comes to it,
 * and what later calls answer is free; this class answers them as all others, so its own edge is tested here.
 */
public final class LateTest {
    private static final String HILL = "hill 0 50 0;stone 0 1 1;stone 9 1 1;tin 1;thing 9;seeker 0 1 3 0;walker 5";

    private LateTest() {
    }

    public static void main(String[] args) {
        TinWall wall = Check.told(HILL, "look 1 if stone=1 and day>=1005", "look 1 if stone=1 and day=999");
        wall.force(0);
        for (int day = 0; day < 999; day++) {
            Check.is("DAY " + day, wall.count(8), day);
            Check.is("day", wall.day(), 0);
        }
        Check.is("DAY 999", wall.count(8), 999);
        Check.is("a DAY more", wall.day(), -1);
        Check.is("DAY 999 still", wall.count(8), 999);
        Check.is("ACTS", wall.count(13), 20);
        Check.is("DAYS that are asked about go on", wall.ahead(0, 6, 2), -1);
        Check.is("beyond 999", wall.ahead(0, 7, 2), 1005);
        Check.is("who FINDS it then", wall.first(0), 0);
        Check.is("on which DAY", wall.first(1), 1005);
        wall.rest(0);
        Check.is("WORN then", wall.shows(0), -2);
        wall.force(1);
        Check.is("on this DAY", wall.first(1), 999);
        wall.force(-1);
        Check.is("WORN enough on a DAY beyond", wall.shows(1), 1049);
        Check.is("the STONE", wall.shows(0), 0);
        Check.is("a DAY more by another RULE", wall.day(), -1);
        Check.is("an IMAGE of it", wall.image(0), 999);
        Check.is("the REST is UNDONE", wall.undo(), 19);
        Check.is("then a DAY", wall.undo(), 18);
        Check.is("DAY 998", wall.count(8), 998);
        wall.force(0);
        Check.is("the DAY again", wall.day(), 0);
        Check.is("and no more", wall.day(), -1);
        Check.is("it is DAY 999", wall.back(0), 999);
        Check.is("and no more there", wall.day(), -1);
        Check.done();
    }
}
