/** The edges of the language of RULES (Terms I): 64 bits, divisions, depth, counts, CLAUSES, and which FAULT is told. */
public final class RuleBoundsTest {
    /** Without a tin, and with PATIENCE for all, TODAY tells the order of all STONES. */
    private static final String HILL = "hill 30 5 0;stone 10 11 3;stone 20 12 4;stone 70 13 5;seeker 1 99 0 0;seeker 2 99 0 0";
    /** 2 to the power of 63, which goes round to the least number of all. */
    private static final String LEAST = "32768*32768*32768*32768*8";
    /** -8: a TERM begins with no sign, so what is below 0 comes by going round. */
    private static final String MINUS_EIGHT = LEAST + "/32768/32768/32768/32768";
    private static final String TEN = "[".repeat(10);

    private RuleBoundsTest() {
    }

    public static void main(String[] args) {
        values();
        rounds();
        divisions();
        ratings();
        clauses();
        depth();
        sixty();
        twelve();
        sixRules();
        afterFaults();
        numbers();
        words();
        signs();
        blanks();
        brackets();
        theEnd();
        firstAlongTheText();
        fourHundredBytes();
        triedOnADayAhead();
        Check.done();
    }

    private static void fault(String text, int place, int kind) {
        Check.is(text, Check.rule(new TinWall(), text), Check.fault(place, kind));
    }

    private static void fine(String text) {
        Check.is(text, Check.rule(new TinWall(), text), 0);
    }

    private static int order(TinWall wall) {
        return wall.today(0, 0) * 100 + wall.today(0, 1) * 10 + wall.today(0, 2);
    }

    /** The order of the three STONES by a RULE, as digits. */
    private static void order(String rule, int due) {
        TinWall wall = Check.told(HILL, rule);
        wall.force(0);
        Check.is(rule, order(wall), due);
    }

    private static void holds(String test) {
        order("look 1 if stone=2 and [" + test + "]", 201);
        order("look 1 if stone=2 and not [" + test + "]", 12);
    }

    // ---- what they are worth

    private static void values() {
        holds("99999=9*11111");
        holds("99999+1=50000*2");
        holds("00000=0");
        holds("00009=9");
        holds("99998<99999");
        holds("0*99999=0");
    }

    private static void rounds() {
        holds(LEAST + "<0");
        holds(LEAST + "-1>0");
        holds(LEAST + "-1+1<0");
        holds(LEAST + "-1+1=" + LEAST);
        holds("0-" + LEAST + "=" + LEAST);
        holds(LEAST + "+" + LEAST + "=0");
        holds(LEAST + "*2=0");
        holds(LEAST + "*3=" + LEAST);
        holds("65536*65536*65536*65536=0");
        holds("65536*32768<65536*32768+1");
        holds("65536*65536>65535*65536");
        holds("65536*65536>0");
        holds("65536*32768>0");
        holds(LEAST + "<" + LEAST + "-1");
    }

    private static void divisions() {
        holds("7/2=3");
        holds("7%2=1");
        holds("7/8=0");
        holds("7%8=7");
        holds("7/7=1");
        holds("7%7=0");
        holds(MINUS_EIGHT + "=0-8");
        holds(MINUS_EIGHT + "/3=0-2");
        holds(MINUS_EIGHT + "%3=0-2");
        holds(MINUS_EIGHT + "/9=0");
        holds(MINUS_EIGHT + "%9=0-8");
        holds(MINUS_EIGHT + "/8=0-1");
        holds(MINUS_EIGHT + "%8=0");
        holds(MINUS_EIGHT + "/0=0");
        holds(MINUS_EIGHT + "%0=0");
        holds("7/0=0");
        holds("7%0=0");
        holds("0/0=0");
        holds("0%0=0");
        holds("7/wear=0");
        holds("7%wear=0");
        holds("3+7/0*5=3");
        holds("3+7%0=3");
        holds(LEAST + "/1=" + LEAST);
        holds(LEAST + "/0=0");
        holds(LEAST + "%0=0");
        holds(LEAST + "%10=0-8");
        holds(LEAST + "%1=0");
    }

    /** All are taken, below 0, too; of several the least; the greatest of 64 bits ahead of the least. */
    private static void ratings() {
        order("look 0-1-stone", 12);
        order("look stone-9", 210);
        order("look 0-5", 12);
        order("look 5", 12);
        order("look " + LEAST + " if stone=1;look " + LEAST + "-1 if stone=2;look 0", 201);
        order("look " + LEAST + " if stone=0;look " + LEAST + "+1 if stone=1;look " + LEAST + "+2", 210);
        order("look " + LEAST + "-1 if stone=1;look 0-1 if stone=0;look 0-1", 102);
        order("look 65536*65536*stone", 210);
        order("look 65536*32768*stone", 210);
        order("look 0-65536*65536*stone", 12);
        TinWall least = Check.told(HILL, "look " + LEAST);
        least.force(0);
        Check.is("all of the least are taken", order(least), 12);
        Check.is("no fourth", least.today(0, 3), -2);
    }

    /** The first CLAUSE without a TEST, or whose TEST holds; 0 without. */
    private static void clauses() {
        order("look 1 if stone=1;look 2", 21);
        order("look 2;look 5 if stone=2", 12);
        order("look 2 if stone>0;look 5 if stone=2", 120);
        order("look 0-2 if stone=0", 120);
        order("look 0-2 if stone=0;look 1 if stone=2", 210);
        order("look 9 if 1=2", 12);
        order("look 0-1 if stone<2", 201);
    }

    // ---- sizes

    private static void depth() {
        String nots = "not ".repeat(10);
        fine("look 1 if " + TEN + "1=1" + "]".repeat(10));
        fault("look 1 if " + TEN + "[1=1" + "]".repeat(11), 20, 2);
        fault("look 1 if " + TEN + "  [1=1", 22, 2);
        fault("look 1 if " + TEN + "not 1=1", 20, 2);
        fine("look 1 if " + nots + "1=1");
        fault("look 1 if " + nots + "not 1=1", 50, 2);
        fault("look 1 if " + nots + "[1=1]", 50, 2);
        fault("look 1 if " + nots + "  [1=1]", 52, 2);
        fine("look 1 if " + "not [".repeat(5) + "1=1" + "]".repeat(5));
        fault("look 1 if " + "not [".repeat(5) + "[1=1" + "]".repeat(6), 35, 2);
        fine("look 1 if " + TEN + "1=1]" + " and [1=1]" + "]".repeat(9));
        fault("look 1 if " + TEN + "1=1 and [1=1" + "]".repeat(11), 28, 2);
        fault("look 1 if " + TEN + "1=1 or not 1=1" + "]".repeat(10), 27, 2);
        fault("look 1 if " + TEN + "1=1] or [not 1=1", 29, 2);
        fine("look 1 if " + TEN + "1=1" + "]".repeat(10) + " or " + nots + "1=1");
        fine("look 1 if " + TEN + "1=1" + "]".repeat(10) + ";look 1 if " + TEN + "1=1" + "]".repeat(10));
        fine("look 1 if " + "not 1=1 and ".repeat(12) + "not 1=1");
        fine("look 1 if " + "[1=1] or ".repeat(12) + "[1=1]");
        fault("look 1 if " + TEN + "[[[[", 20, 2);
        order("look 1 if " + "not ".repeat(9) + "stone=2", 12);
        order("look 1 if " + nots + "stone=2", 201);
        order("look 1 if " + TEN + "stone=2" + "]".repeat(10), 201);
    }

    /** At most 60 VALUES and FACTS made of a SIGN, together; the first too many is told where it begins. */
    private static void sixty() {
        fine("look 1" + "+1".repeat(59));
        fault("look 1" + "+1".repeat(60), 125, 3);
        fault("look 1" + "+1".repeat(59) + "  *  feet", 129, 3);
        fault("look 1" + "+1".repeat(59) + "+1+1+x", 125, 3);
        fine("look 1" + "+1".repeat(56) + " if 1=1");
        fault("look 1" + "+1".repeat(57) + " if 1=1", 126, 3);
        fault("look 1" + "+1".repeat(58) + " if 1=1", 127, 3);
        fault("look 1" + "+1".repeat(59) + " if 1=1", 128, 3);
        fault("look 1" + "+1".repeat(58) + " if 1  >=  1", 129, 3);
        fault("look 1" + "+1".repeat(57) + " if 1<=  1", 129, 3);
        fine("look 1" + "+1".repeat(56) + " if not [1=1]");
        fine("look 1" + "+1".repeat(53) + " if 1=1 and [1=1]");
        fault("look 1" + "+1".repeat(54) + " if 1=1 and [1=1]", 129, 3);
        fine("look 1;".repeat(11) + "look 1" + "+1".repeat(48));
        fault("look 1;".repeat(11) + "look 1" + "+1".repeat(49), 77 + 6 + 97, 3);
        fine("look 1 if 1=1;".repeat(11) + "look 1" + "+1".repeat(15));
        fault("look 1 if 1=1;".repeat(11) + "look 1" + "+1".repeat(16), 154 + 6 + 31, 3);
        fault("look 1" + "+1".repeat(59) + "+fleet", 125, 0);
        fault("look 1" + "+1".repeat(59) + "+000000", 125, 1);
        fault("look 1" + "+1".repeat(58) + " if 1!1", 127, 0);
        fault("look 1" + "+1".repeat(59) + "+", 125, 0);
        fault("look 1" + "+1".repeat(59) + ";", 125, 0);
        fault("look 1" + "+1".repeat(59) + ";look 1", 130, 3);
        TinWall last = Check.told(HILL, "look 0" + "+0".repeat(58) + "+stone");
        last.force(0);
        Check.is("the sixtieth counts", order(last), 210);
    }

    private static void twelve() {
        String twelve = "look 1 if 1=2;".repeat(11) + "look stone";
        order(twelve, 210);
        fault(twelve + ";look 1", 165, 4);
        fault(twelve + " ; look 1", 167, 4);
        fault(twelve + ";look", 165, 4);
        fault(twelve + ";look 123456", 165, 4);
        fault(twelve + ";lookx 1", 165, 0);
        fault(twelve + ";1", 165, 0);
        fault(twelve + ";", 165, 0);
        fault(twelve + " 1", 165, 0);
    }

    private static void sixRules() {
        TinWall wall = Check.told(HILL, "look 1", "look 0-stone", "look stone", "look off", "look 0-feet");
        Check.is("a fault is not a sixth", Check.rule(wall, "look"), Check.fault(4, 0));
        Check.is("the sixth", Check.rule(wall, "look stone=1"), Check.fault(10, 0));
        Check.is("the sixth at last", Check.rule(wall, "look stone%2"), 5);
        Check.is("a seventh", Check.rule(wall, "look 7"), -1);
        Check.is("its bytes stay", wall.count(15), 6);
        Check.is("a seventh of nothing", wall.end(0) + wall.rule(), -1);
        Check.is("a seventh with a FAULT", Check.rule(wall, "x"), -1);
        Check.is("that stays, too", wall.count(15), 1);
        Check.is("six", wall.count(6), 6);
        int[] due = {12, 12, 210, 201, 12, 102};
        for (int rule = 0; rule < 6; rule++) {
            wall.force(rule);
            Check.is("RULE " + rule, order(wall), due[rule]);
        }
        Check.is("force 6", wall.force(6), -2);
        Check.is("without a RULE the nearest", wall.force(-1) * 1000 + order(wall), 5102);
    }

    /** Nothing of a text with a FAULT is left in the next RULE. */
    private static void afterFaults() {
        String[] faulty = {"look 5;look 6;look 7;x", "look 9 if 1=2;look 8 if 1=1 or", "look stone*stone*stone if 1=1 and 1=1;",
            "look 1" + "+1".repeat(60), "look 1 if " + TEN + "[", "look 1;".repeat(12) + "look 1", "look 5 if 1=2;look 5 if 1=2;look 5 if 1=2;"};
        for (String text : faulty) {
            TinWall wall = new TinWall();
            Check.hill(wall, HILL);
            Check.is("a FAULT in " + text, Check.rule(wall, text) < -2 ? 1 : 0, 1);
            Check.is("a RULE behind " + text, Check.rule(wall, "look 3 if stone=2;look stone"), 0);
            Check.is("another", Check.rule(wall, "look 9 if stone=1"), 1);
            wall.force(0);
            Check.is("by it, behind " + text, order(wall), 210);
            wall.force(1);
            Check.is("by another, behind " + text, order(wall), 102);
        }
    }

    // ---- bytes

    private static void numbers() {
        fine("look 0");
        fine("look 99999");
        fine("look 00000");
        fault("look 100000", 5, 1);
        fault("look 000000", 5, 1);
        fault("look 4294967297", 5, 1);
        fault("look 18446744073709551617", 5, 1);
        fault("look 1+  123456", 9, 1);
        fault("look 1 if 123456=1", 10, 1);
        fault("look 1 if 1=123456", 12, 1);
        fault("look 12345a", 10, 0);
        fault("look 123456a", 5, 1);
        fault("look feet1", 9, 0);
        fault("look 1 1", 7, 0);
        fault("look -1", 5, 0);
        fault("look +1", 5, 0);
        fault("look 1.5", 6, 0);
        fine("look 1if 1=1");
        fine("look1");
    }

    private static void words() {
        String[] all = {"seeker", "stone", "feet", "hard", "odds", "wear", "figure", "off", "minutes", "skill", "vain", "tried",
            "found", "day"};
        for (String word : all) {
            fine("look " + word);
            fine("look1if " + word + "=" + word + " and1=1");
            fault("look " + word + "s", 5, 0);
            fault("look " + word.substring(1), 5, 0);
            fault("look " + word.substring(0, word.length() - 1), 5, 0);
            fault("look " + word + word, 5, 0);
            fault("look " + word.toUpperCase(java.util.Locale.ROOT), 5, 0);
            fault("look " + word + " " + word, 6 + word.length(), 0);
        }
        for (String word : new String[] {"if", "and", "or", "not", "look", "hill", "tin", "thing", "walker", "notice", "lost", "worth"}) {
            fault("look " + word, 5, 0);
            fault("look 1+" + word + " 1", 7, 0);
        }
        for (String text : new String[] {"1", "feet", "if 1=1", "[", "Look 1", "looks 1", "loo 1", "hill 1", "{look 1", "`look 1"}) {
            fault(text, 0, 0);
            fault("look 1; " + text, 8, 0);
        }
    }

    private static void signs() {
        for (String sign : new String[] {"<", "<=", "=", ">=", ">"}) {
            fine("look 1 if 1" + sign + "1");
            fine("look 1 if 1  " + sign + "  1");
            fault("look 1 if 1" + sign, 11 + sign.length(), 0);
            fault("look 1 if " + sign + "1", 10, 0);
            fault("look 1 if 1" + sign + sign + "1", 11 + sign.length(), 0);
        }
        fault("look 1 if 1<>1", 12, 0);
        fault("look 1 if 1=>1", 12, 0);
        fault("look 1 if 1=<1", 12, 0);
        fault("look 1 if 1!=1", 11, 0);
        fault("look 1 if 1< =1", 13, 0);
        fault("look 1 if 1> =1", 13, 0);
        fault("look 1 if 1<==1", 13, 0);
        fault("look 1 if 1;1", 11, 0);
        fault("look 1 if 1?1", 11, 0);
        fault("look 1=1", 6, 0);
        for (char c = 0; c < 256; c++) {
            boolean fine = c == ' ' || c >= '0' && c <= '9';
            int place = "+-*/%;".indexOf(c) >= 0 ? 7 : 6;
            Check.is("byte " + (int) c, Check.rule(new TinWall(), "look 1" + c), fine ? 0 : Check.fault(place, 0));
        }
    }

    private static void blanks() {
        fine("   look   1   +   2   if   [   1   <=   2   ]   ;   look   3   ");
        fine("look1if[1<=2]and[1=1]or not[1=2]and 1=1;look3");
        fault("look\t1", 4, 0);
        fault("look 1\n", 6, 0);
        fault("look 1\u00a0", 6, 0);
        fault("look 1 if no t 1=1", 10, 0);
        fault("look 1 i f 1=1", 7, 0);
        fault("look 1if1=1and1=1andnot1=1", 17, 0);
        fault("lo ok 1", 0, 0);
    }

    private static void brackets() {
        fault("look 1 if [1=1", 14, 0);
        fault("look 1 if [1=1;look 1", 14, 0);
        fault("look 1 if 1=1]", 13, 0);
        fault("look 1 if [1=1]]", 15, 0);
        fault("look 1 if []", 11, 0);
        fault("look 1 if [1]=1", 12, 0);
        fault("look [1]", 5, 0);
        fault("look [1=1]", 5, 0);
        fault("look 1 if [1=1] [1=1]", 16, 0);
        fault("look 1 if [1=1] not 1=1", 16, 0);
        fault("look 1 if [1=1] = 1", 16, 0);
        fault("look 1 if (1=1)", 10, 0);
        fault("look 1 if {1=1}", 10, 0);
        fine("look 1 if [1=1]");
    }

    private static void theEnd() {
        fault("", 0, 0);
        fault(" ", 1, 0);
        fault("look", 4, 0);
        fault("look ", 5, 0);
        fault("look 1+", 7, 0);
        fault("look 1 if", 9, 0);
        fault("look 1 if not", 13, 0);
        fault("look 1 if [", 11, 0);
        fault("look 1 if 1", 11, 0);
        fault("look 1 if 1=", 12, 0);
        fault("look 1 if 1=1+", 14, 0);
        fault("look 1 if 1=1 and", 17, 0);
        fault("look 1 if 1=1 or", 16, 0);
        fault("look 1 if 1=1;", 14, 0);
        fault("look 1 if 1=1;  ", 16, 0);
        fault(" ".repeat(400), 400, 0);
    }

    private static void firstAlongTheText() {
        fault("look 123456 x", 5, 1);
        fault("look x+123456", 5, 0);
        fault("look 1 if 123456=1 and " + TEN + "[", 10, 1);
        fault("look 1 if " + TEN + "[ 123456", 20, 2);
        fault("look 1 if 1 x; look 123456", 12, 0);
        fault("look 1" + "+1".repeat(60) + "+123456", 125, 3);
        fault("look 1" + "+1".repeat(58) + "+123456+1", 123, 1);
        fault("look 1" + "+1".repeat(57) + " if " + TEN + "[1=1", 134, 2);
        fault("look 1" + "+1".repeat(59) + " if " + TEN + "1=1", 138, 3);
        fault("look 1" + "+1".repeat(59) + " if " + TEN + "[1=1", 138, 2);
    }

    private static void fourHundredBytes() {
        String most = "look minutes" + "+minutes".repeat(48) + "+123";
        Check.is("its bytes", most.length(), 400);
        fine(most);
        fault(most.substring(0, 399) + "x", 399, 0);
        fault(most.substring(0, 399) + "+", 400, 0);
        fault(most.substring(0, 388) + "     +123456", 394, 1);
        fault(most.substring(0, 399) + ";", 400, 0);
        fine("look 1" + " ".repeat(394));
        fine(" ".repeat(394) + "look 1");
        fault("look 1 if " + " ".repeat(388) + "1=", 400, 0);
        fault("look 1 if " + " ".repeat(388) + "1<", 400, 0);
        fault("look 1 if " + " ".repeat(387) + "1<=", 400, 0);
    }

    /** tried is 1 if they looked there on a DAY ahead: on the first DAY, and for another SEEKER, it is 0. */
    private static void triedOnADayAhead() {
        String hill = "hill 0 50 0;stone 1 1 1;stone 2 1 1;stone 3 1 1;seeker 0 1 0 0;seeker 0 1 0 0";
        TinWall wall = Check.told(hill, "look 0-tried", "look tried", "look tried if seeker=1;look stone", "look 0-wear");
        wall.force(0);
        Check.is("at first", wall.today(0, 0), 0);
        wall.day();
        Check.is("TRIED by both the same, on the same DAY", wall.stone(0, 4), 3);
        Check.is("then another", wall.today(0, 0), 1);
        wall.day();
        Check.is("then the last", wall.today(0, 0), 2);
        wall.day();
        Check.is("then all were", wall.today(0, 0), 0);
        wall.rest(0);
        Check.is("whatever is WORN", wall.today(0, 0), 0);
        TinWall other = Check.told(hill, "look stone if seeker=0", "look tried");
        other.force(0);
        other.day();
        other.force(1);
        Check.is("where SEEKER 0 was", other.today(0, 0), 2);
        Check.is("where SEEKER 1 was", other.today(1, 0), 0);
    }
}
