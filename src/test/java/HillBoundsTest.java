/** The edges of the language of a HILL (Terms I): its sizes, NUMBERS, blanks, words, and which FAULT is told. */
public final class HillBoundsTest {
    private static final String HILL = "hill 0 1 0";
    private static final String THREE = HILL + ";stone 1 1 1;stone 2 2 2;stone 3 3 3";

    private interface Told {
        int by(TinWall wall);
    }

    private HillBoundsTest() {
    }

    public static void main(String[] args) {
        ranges();
        fourHundredBytes();
        fortyClauses();
        tenStones();
        sixThings();
        fourSeekers();
        eightWalkers();
        oneHill();
        tins();
        bytesBesideThoseMeant();
        blanks();
        firstAlongTheText();
        leastOfOnePlace();
        theEnd();
        atTheBegin();
        Check.done();
    }

    private static void fault(String text, int place, int kind) {
        Check.is(text, Check.hill(new TinWall(), text), Check.fault(place, kind));
    }

    private static void fine(String text, int stones) {
        Check.is(text, Check.hill(new TinWall(), text), stones);
    }

    // ---- NUMBERS

    private static void ranges() {
        range("hill # 1 0", 0, 99, wall -> wall.count(0));
        range("hill 0 # 0", 1, 50, wall -> wall.count(1));
        range("hill 0 1 #", 0, 99, wall -> wall.count(2));
        range(HILL + ";stone # 1 1", 0, 99, wall -> wall.stone(0, 0));
        range(HILL + ";stone 1 # 1", 1, 20, wall -> wall.stone(0, 1));
        range(HILL + ";stone 1 1 #", 0, 9, wall -> wall.stone(0, 2));
        range(THREE + ";tin #", 0, 2, wall -> wall.count(9));
        range(HILL + ";thing #", 0, 99, wall -> wall.thing(0));
        range(HILL + ";seeker # 1 1 1", 0, 9, wall -> wall.seeker(0, 0));
        range(HILL + ";seeker 1 # 1 1", 1, 99, wall -> wall.seeker(0, 1));
        range(HILL + ";seeker 1 1 # 1", 0, 99, wall -> wall.seeker(0, 2));
        range(HILL + ";seeker 1 1 1 #", 0, 2, wall -> wall.seeker(0, 3));
        range(HILL + ";walker #", 0, 99, HillBoundsTest::walkersCome);
    }

    private static int walkersCome(TinWall wall) {
        for (int day = 0; day < 120; day++) {
            if (wall.count(11) == 1) {
                return wall.count(8);
            }
            wall.day();
        }
        return -9;
    }

    /** The NUMBER at # from least to most is as told; beyond, of six digits, or below 0 it is not. */
    private static void range(String text, int least, int most, Told told) {
        int place = text.indexOf('#');
        for (int value = least; value <= most; value++) {
            TinWall wall = Check.told(text.replace("#", "" + value));
            Check.is(text + " with " + value, told.by(wall), value);
        }
        for (int value : new int[] {least, most}) {
            String five = "00000".substring(("" + value).length()) + value;
            Check.is(text + " with " + five, told.by(Check.told(text.replace("#", five))), value);
            fault(text.replace("#", "0" + five), place, 1);
        }
        if (least > 0) {
            fault(text.replace("#", "" + (least - 1)), place, 1);
        }
        for (String wrong : new String[] {"" + (most + 1), "99999", "100000", "4294967296", "18446744073709551616"}) {
            fault(text.replace("#", wrong), place, 1);
        }
        for (String wrong : new String[] {"-1", "+1", "x", "tin", "[", ".", "\0", "\u00ff"}) {
            fault(text.replace("#", wrong), place, 0);
        }
    }

    // ---- sizes

    private static void fourHundredBytes() {
        String most = HILL + ";stone 1 1 1" + ";tin 00000".repeat(37) + ";tin 000";
        Check.is("its bytes", most.length(), 400);
        fine(most, 1);
        fault(most.substring(0, 399) + "x", 399, 0);
        fault(most.substring(0, 399) + ";", 400, 0);
        fault(most.substring(0, 393) + "tin 001", 397, 1);
        fault(most.substring(0, 393) + "   tin ", 400, 0);
        TinWall wall = new TinWall();
        Check.tape(wall, most);
        Check.is("no byte more", wall.feed(0, 0, 0, 0, 0), -1);
        Check.is("all as told", wall.hill(), 1);
    }

    private static void fortyClauses() {
        String forty = HILL + ";stone 1 1 1".repeat(10) + ";tin 9" + ";thing 1".repeat(6) + ";seeker 1 1 1 1".repeat(4)
            + ";walker 1".repeat(8);
        String more = ";tin 1".repeat(10);
        fine(forty + more, 10);
        int end = (forty + more).length();
        fault(forty + more + ";tin 1", end + 1, 4);
        fault(forty + more + ";tin 99", end + 1, 4);
        fault(forty + more + ";stone 1 1 1", end + 1, 4);
        fault(forty + more + ";hill 1 1 1", end + 1, 4);
        fault(forty + more + ";look 1", end + 1, 0);
        fault(forty + more + ";", end + 1, 0);
        fault(forty + more + "  ;  tin", end + 5, 4);
        fine(HILL + ";stone 1 1 1" + ";tin 0".repeat(38), 1);
        fine(HILL + ";stone 1 1 1" + ";tin 0".repeat(37), 1);
    }

    /** The others may stand between, and count for themselves. */
    private static void tenStones() {
        String ten = HILL + ";stone 1 1 1;thing 1".repeat(6) + ";stone 1 1 1;walker 1".repeat(4);
        TinWall wall = Check.told(ten);
        Check.is("stones", wall.count(3), 10);
        Check.is("the tenth", wall.stone(9, 0), 1);
        Check.is("no eleventh", wall.stone(10, 0), -1);
        fault(ten + ";tin 9;  stone 1 1 1", ten.length() + 9, 4);
        fault(ten + ";stone x", ten.length() + 1, 4);
        fine(ten + ";tin 9;tin 0;walker 1", 10);
        fault(ten + ";tin 10", ten.length() + 5, 1);
    }

    private static void sixThings() {
        String six = HILL + ";thing 1;seeker 1 1 1 1".repeat(4) + ";thing 2;thing 3";
        TinWall wall = Check.told(six);
        Check.is("things", wall.count(4), 6);
        Check.is("the sixth", wall.thing(5), 3);
        Check.is("no seventh", wall.thing(6), -1);
        fault(six + ";walker 1;thing 4", six.length() + 10, 4);
        fault(six + ";thing 100", six.length() + 1, 4);
    }

    private static void fourSeekers() {
        String four = HILL + ";seeker 1 1 1 1;thing 2".repeat(4);
        TinWall wall = Check.told(four);
        Check.is("seekers", wall.count(5), 4);
        Check.is("the fourth", wall.seeker(3, 0), 1);
        Check.is("no fifth", wall.seeker(4, 0), -2);
        fault(four + ";thing 2; seeker 1 1 1 1", four.length() + 10, 4);
        fault(four + ";seeker", four.length() + 1, 4);
    }

    private static void eightWalkers() {
        String eight = HILL + ";walker 1;thing 1".repeat(6) + ";walker 1;walker 2";
        TinWall wall = Check.told(eight);
        Check.is("nobody comes on DAY 0", wall.count(11), 0);
        wall.day();
        Check.is("on DAY 1", wall.count(11), 1);
        wall.day();
        Check.is("the eighth, on DAY 2", wall.count(11), 1);
        fault(eight + ";walker 1", eight.length() + 1, 4);
        fault(eight + ";stone 1 1 1;walker 100", eight.length() + 13, 4);
        TinWall last = Check.told(HILL + ";walker 99");
        Check.days(last, 98);
        Check.is("not on DAY 98", last.count(11), 0);
        last.day();
        Check.is("on DAY 99", last.count(11), 1);
        last.day();
        Check.is("not on DAY 100", last.count(11), 0);
    }

    private static void oneHill() {
        for (String clause : new String[] {"stone 1 1 1", "tin 0", "thing 1", "seeker 1 1 1 1", "walker 1"}) {
            fault(clause, 0, 4);
            fault("  " + clause + ";" + HILL, 2, 4);
        }
        fault("stone 99 99 99", 0, 4);
        fault(HILL + ";" + HILL, 11, 4);
        fault(THREE + ";hill 100", THREE.length() + 1, 4);
        fault(HILL + ";hill", 11, 4);
    }

    private static void tins() {
        Check.is("of several the last", Check.told(THREE + ";tin 2;tin 0;tin 1").count(9), 1);
        Check.is("one is told between", Check.told(HILL + ";stone 1 1 1;tin 0;stone 1 1 1").count(9), 0);
        Check.is("without a tin it is GONE", Check.told(THREE).count(9), -1);
        Check.is("without a STONE, too", Check.told(HILL).count(9), -1);
        fault(HILL + ";tin 0", 15, 1);
        fault(HILL + ";stone 1 1 1;tin 1;stone 1 1 1", 27, 1);
        fault(THREE + ";tin 0;tin 3", THREE.length() + 11, 1);
    }

    // ---- bytes

    private static void bytesBesideThoseMeant() {
        fault("hill 0/1 0", 6, 0);
        fault("hill 0:1 0", 6, 0);
        fault("hil` 0 1 0", 0, 0);
        fault("hill` 0 1 0", 4, 0);
        fault("hill{ 0 1 0", 4, 0);
        fault("{hill 0 1 0", 0, 0);
        fault("Hill 0 1 0", 0, 0);
        fault("hilL 0 1 0", 0, 0);
        fault("hill 0 1 0:", 10, 0);
        fault("hill 0 1 0<", 10, 0);
        fault("hill 0 1 0\0", 10, 0);
        fault("hill 0 1 0\u00ff", 10, 0);
        fault("hill 0 1 0\u0080", 10, 0);
        fault("hill 0 1 0!", 10, 0);
        fault("hill, 0 1 0", 4, 0);
        fault("9", 0, 0);
        fault(";" + HILL, 0, 0);
    }

    private static void blanks() {
        fine("hill0 1 0;stone1 1 1;tin0;thing1;seeker1 1 1 1;walker1", 1);
        fine("   hill   0   1   0   ;   stone   1   1   1   ;   tin   0   ", 1);
        fault("hill 0\t1 0", 6, 0);
        fault("hill 0\n1 0", 6, 0);
        fault("hill 0\r1 0", 6, 0);
        fault("hill 0\u00a01 0", 6, 0);
        fault("hill 0\u001f1 0", 6, 0);
        fault("hi ll 0 1 0", 0, 0);
        fault("hill 01 1", 9, 0);
        fault("hill 01 0", 8, 1);
        fault("hill 010", 8, 0);
        Check.is("digits part by blanks alone", Check.told("hill 1 02 3").count(1), 2);
        fault("hill 0 1 0 stone 1 1 1", 11, 0);
        fault("hill 0 1 0stone 1 1 1", 10, 0);
        fault("hillstone 0 1 0", 0, 0);
    }

    // ---- which FAULT

    private static void firstAlongTheText() {
        fault("hill 100 1 0;x", 5, 1);
        fault("hill 0 0 100", 7, 1);
        fault("hill 0 1 0;stone 1 21 10", 19, 1);
        fault("hill 0 1 0;stone 1 1 x;hill", 21, 0);
        fault("hill 0 1 0;tin 0;hill 0 1 0", 15, 1);
        fault("hill x 1 100", 5, 0);
        fault("hill 000000 x", 5, 1);
        fault("walker 1 x", 0, 4);
    }

    private static void leastOfOnePlace() {
        String forty = HILL + ";stone 1 1 1" + ";tin 0".repeat(38);
        fault(forty + ";stane", forty.length() + 1, 0);
        fault(forty + ";1", forty.length() + 1, 0);
        fault("stones", 0, 0);
        fault("1", 0, 0);
        fault(HILL + ";hills", 11, 0);
        fault(HILL + ";stone 1 1 1".repeat(10) + ";stonee 1 1 1", 131, 0);
    }

    private static void theEnd() {
        fault("", 0, 0);
        fault(" ", 1, 0);
        fault("hill", 4, 0);
        fault("hill 0", 6, 0);
        fault("hill 0 1", 8, 0);
        fault("hill 0 1 ", 9, 0);
        fine("hill 0 1 0", 0);
        fault("hill 0 1 0;", 11, 0);
        fault("hill 0 1 0; ", 12, 0);
        fault(HILL + ";stone", 16, 0);
        fault(HILL + ";stone 1 1", 20, 0);
        fault(THREE + ";tin", THREE.length() + 4, 0);
        fault(HILL + ";thing", 16, 0);
        fault(HILL + ";seeker 1 1 1", 23, 0);
        fault(HILL + ";walker", 17, 0);
        fault(" ".repeat(400), 400, 0);
    }

    /** It is DAY 0; nothing is WORN, nobody has been: also after another HILL on which all that was otherwise. */
    private static void atTheBegin() {
        String hill = "hill 50 9 20;stone 50 4 1;stone 60 4 2;tin 0;thing 9;seeker 0 8 3 1;seeker 0 8 5 0;seeker 0 3 1 1;walker 0";
        TinWall wall = Check.told(hill, "look 0-stone");
        wall.force(0);
        wall.seed(5);
        Check.days(wall, 3);
        wall.hide(0);
        wall.forget(0);
        wall.figure(3);
        wall.name(0, 0);
        Check.is("in VAIN", wall.seeker(2, 5), 3);
        Check.is("the same HILL again", Check.hill(wall, hill), 2);
        TinWall fresh = Check.told(hill, "look 0-stone");
        fresh.force(0);
        fresh.seed(5);
        Check.same("as one told for the first time", Seen.drained(wall), Seen.drained(fresh));
        Check.hill(wall, hill);
        Check.days(wall, 3);
        Check.is("a smaller one", Check.hill(wall, "hill 7 2 3"), 0);
        TinWall small = Check.told("hill 7 2 3", "look 0-stone");
        small.force(0);
        small.seed(5);
        Check.rule(small, "look 3");
        Check.rule(wall, "look 3");
        Check.same("a smaller one, as told first", "" + Seen.all(wall), "" + Seen.all(small));
    }
}
