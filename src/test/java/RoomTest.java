import java.lang.management.ManagementFactory;

/** All calls of a run live in one room: as many calls as there may be, of the dearest kinds, make few objects. */
public final class RoomTest {
    /** What is left of 512 calls behind the texts. */
    private static final int CALLS = 440;
    /** Some 7.3 million fields and elements and 600,000 objects are allowed for a whole run of calls; this is far below. */
    private static final long MOST_BYTES = 3_000_000;
    private static final String HILL = "hill 50 50 20" + ";stone 50 1 9".repeat(10) + ";tin 9" + ";thing 9".repeat(6)
        + ";seeker 0 9 3 1".repeat(4) + ";walker 99".repeat(8);
    private static final String RULE = "look 1 if 1=2 and day>=vain or [tried=found and wear*7%5<minutes];look off-wear+stone";

    private interface Call {
        int on(TinWall wall, int time);
    }

    private RoomTest() {
    }

    public static void main(String[] args) {
        made("hill", 19, (wall, time) -> Check.hill(wall, HILL));
        made("a hill of nothing", 1, (wall, time) -> wall.hill());
        made("a rule of nothing", 1, (wall, time) -> wall.rule());
        made("a faulty hill", 19, (wall, time) -> Check.hill(wall, HILL + "x"));
        made("image and back", 2, (wall, time) -> wall.image(time % 4) + wall.back(time % 3));
        made("day and undo", 2, (wall, time) -> wall.day() + (time % 3 == 0 ? wall.undo() : 0));
        made("ahead and today", 2, (wall, time) -> wall.ahead(0, 100, 0) + wall.today(0, 0));
        made("hiding, shows and first", 3, (wall, time) -> wall.hiding(60, 0) + wall.shows(0) + wall.first(0));
        made("wanders and worth", 2, (wall, time) -> wall.wanders(100) + wall.worth(100));
        made("ruled, ask, forged, name", 4, (wall, time) -> wall.ruled(0) + wall.ask(0) + wall.forged() + wall.name(time % 61, 0));
        made("years", 1, (wall, time) -> wall.years(10, 60, 50, 0));
        made("order, mean, gone, hint", 4, (wall, time) -> wall.order(0, 0) + wall.mean(0, 0) + wall.gone(0) + wall.hint(0));
        faultyRules();
        Check.done();
    }

    private static long made() {
        com.sun.management.ThreadMXBean bean = (com.sun.management.ThreadMXBean) ManagementFactory.getThreadMXBean();
        return bean.getThreadAllocatedBytes(Thread.currentThread().getId());
    }

    private static void faultyRules() {
        long before = made();
        TinWall wall = new TinWall();
        for (int time = 0; time < 70; time++) {
            Check.rule(wall, RULE + "x");
        }
        few("faulty rules", before);
    }

    private static void few(String what, long before) {
        long bytes = made() - before;
        Check.is(what + " made " + bytes + " bytes: too many", bytes > MOST_BYTES ? 1 : 0, 0);
    }

    private static void made(String what, int calls, Call call) {
        made();
        long before = made();
        TinWall wall = Check.told(HILL, RULE, RULE, RULE, RULE, RULE, RULE);
        wall.force(0);
        for (int time = 0; time < CALLS / calls; time++) {
            call.on(wall, time);
        }
        few(what, before);
    }
}
