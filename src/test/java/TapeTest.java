/** Promises 1 to 3 and 33: a new object, the TAPE, counts. */
public final class TapeTest {
    private TapeTest() {
    }

    public static void main(String[] args) {
        newObject();
        feeding();
        byteOrder();
        leftovers();
        counts();
        Check.done();
    }

    private static void newObject() {
        TinWall wall = new TinWall();
        Check.is("NONE", TinWall.NONE, -1);
        for (int what = -1; what <= 16; what++) {
            boolean none = what == -1 || what == 16 || what == 7 || what == 9;
            Check.is("count " + what + " of a new object", wall.count(what), none ? -1 : 0);
        }
        Check.is("count far off", wall.count(Integer.MIN_VALUE) + wall.count(Integer.MAX_VALUE), -2);
        Check.is("hill without a text", wall.hill(), Check.fault(0, 0));
        Check.is("rule without a text", wall.rule(), Check.fault(0, 0));
        Check.is("force none", wall.force(-1), -1);
        Check.is("force 0", wall.force(0), -2);
        Check.is("stone", wall.stone(0, 0), -1);
        Check.is("seeker", wall.seeker(0, 0), -2);
        Check.is("thing", wall.thing(0), -1);
        Check.is("day", wall.day(), -1);
        Check.is("undo", wall.undo(), -2);
        Check.is("first", wall.first(0), -1);
        Check.is("forged", wall.forged(), -1);
        Check.is("back", wall.back(0), -1);
    }

    private static void feeding() {
        TinWall wall = new TinWall();
        for (int many = 20; many <= 400; many += 20) {
            Check.is("feed", wall.feed(1, 2, 3, 4, 5), many);
        }
        Check.is("feed a full TAPE", wall.feed(1, 2, 3, 4, 5), -1);
        Check.is("bytes", wall.count(15), 400);
        Check.is("end 401", wall.end(401), -1);
        Check.is("end -1", wall.end(-1), -1);
        Check.is("end at its end", wall.end(400), 400);
        Check.is("end 381", wall.end(381), 381);
        Check.is("feed beyond 400", wall.feed(1, 2, 3, 4, 5), -1);
        Check.is("bytes then", wall.count(15), 381);
        Check.is("end 382", wall.end(382), -1);
        Check.is("end 380", wall.end(380), 380);
        Check.is("feed up to 400", wall.feed(1, 2, 3, 4, 5), 400);
        Check.is("end 0", wall.end(0), 0);
        Check.is("bytes of an empty TAPE", wall.count(15), 0);
    }

    private static void byteOrder() {
        TinWall wall = new TinWall();
        Check.is("feed", wall.feed(0x68696c6c, 0x20312032, 0x20333b73, 0x746f6e65, 0x20342035), 20);
        Check.is("feed", wall.feed(0x20360000, 0, 0, 0, 0), 40);
        Check.is("end", wall.end(22), 22);
        Check.is("hill", wall.hill(), 1);
        Check.is("figure", wall.count(0), 1);
        Check.is("notice", wall.count(1), 2);
        Check.is("lost", wall.count(2), 3);
        Check.is("feet", wall.stone(0, 0), 4);
        Check.is("hard", wall.stone(0, 1), 5);
        Check.is("odds", wall.stone(0, 2), 6);
        Check.is("the TAPE is empty then", wall.count(15), 0);
        wall.feed(0x68696c6c, 0x20312032, 0x2033ff80, -1, -1);
        wall.end(11);
        Check.is("byte 255", wall.hill(), Check.fault(10, 0));
        wall.feed(0x68696c6c, 0x20312032, 0x2033ff80, -1, -1);
        wall.feed(0x20312032, 0, 0, 0, 0);
        Check.is("cut behind a byte", wall.end(10), 10);
        Check.is("cut text", wall.hill(), 0);
        Check.tape(wall, "hill 1 2 3");
        wall.end(9);
        wall.feed(0x34000000, 0, 0, 0, 0);
        wall.end(10);
        Check.is("fed behind an end", wall.hill(), 0);
        Check.is("lost then", wall.count(2), 4);
    }

    /** What stood behind the end of a text is not read. */
    private static void leftovers() {
        TinWall wall = new TinWall();
        Check.tape(wall, "hill 1 2 34");
        wall.end(10);
        Check.is("digits", wall.hill(), 0);
        Check.is("LOST without the last digit", wall.count(2), 3);
        Check.is("blanks", cutHill("hill 1 2    ", 8), Check.fault(8, 0));
        Check.is("letters", cutHill("hill 1 2 3;thing 4", 14), Check.fault(11, 0));
        Check.is("a part of a word", cutHill("hill 1 2 3;tinz 4", 14), Check.fault(14, 0));
        Check.is("a CLAUSE", cutHill("hill 1 2 3;thing 4", 10), 0);
        Check.is("a sign", cutRule("look 1 if 1<=1", 12), Check.fault(12, 0));
        Check.is("a NUMBER", cutRule("look 1 if 1<=1", 13), Check.fault(13, 0));
        Check.is("a TEST", cutRule("look 1 if 1<=1", 6), 0);
        Check.is("a bracket", cutRule("look 1 if [1<=1]", 15), Check.fault(15, 0));
    }

    private static int cutHill(String text, int bytes) {
        TinWall wall = new TinWall();
        Check.tape(wall, text);
        wall.end(bytes);
        return wall.hill();
    }

    private static int cutRule(String text, int bytes) {
        TinWall wall = new TinWall();
        Check.tape(wall, text);
        wall.end(bytes);
        return wall.rule();
    }

    private static void counts() {
        TinWall wall = Check.told("hill 50 3 20;stone 40 5 1;stone 60 5 2;tin 1;thing 7;thing 8;thing 9;"
            + "seeker 0 9 1 0;walker 0;walker 2;walker 2", "look 1", "look 2");
        int[] due = {50, 3, 20, 2, 3, 1, 2, -1, 0, 1, 0, 1, 0, 0, 0, 0};
        for (int what = 0; what < due.length; what++) {
            Check.is("count " + what, wall.count(what), due[what]);
        }
        wall.force(1);
        wall.name(3, 0);
        wall.seed(99);
        wall.figure(60);
        wall.day();
        wall.feed(0, 0, 0, 0, 0);
        int[] then = {60, 3, 20, 2, 3, 1, 2, 1, 1, 1, 0, 0, 1, 2, 99, 20};
        for (int what = 0; what < then.length; what++) {
            Check.is("count then " + what, wall.count(what), then[what]);
        }
        wall.force(-1);
        Check.is("who FINDS it without a RULE", wall.day(), 1);
        Check.is("who has FOUND it", wall.count(10), 1);
        Check.is("walkers on DAY 2", wall.count(11), 1);
        wall.day();
        Check.is("no walkers on DAY 3", wall.count(11), 0);
    }
}
