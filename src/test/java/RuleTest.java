/** Promises 5 and 6: telling RULES, their FAULTS, what they are worth, which is IN FORCE. */
public final class RuleTest {
    /** No tin, so a SEEKER looks at all STONES, and the order shows what a RULE answers. */
    private static final String HILL = "hill 30 5 0;stone 10 11 3;stone 20 12 4;stone 70 13 5;seeker 1 99 0 0;seeker 2 99 0 0";
    private static final String TEN = "[[[[[[[[[[";

    private RuleTest() {
    }

    public static void main(String[] args) {
        faults();
        depth();
        tooManyValues();
        tooManyClauses();
        sums();
        tests();
        words();
        clauses();
        force();
        sixRules();
        Check.done();
    }

    private static void fault(String text, int place, int kind) {
        Check.is(text, Check.rule(new TinWall(), text), Check.fault(place, kind));
    }

    private static void fine(String text) {
        Check.is(text, Check.rule(new TinWall(), text), 0);
    }

    private static void faults() {
        fault("", 0, 0);
        fault("look", 4, 0);
        fault("look ", 5, 0);
        fault("looks 1", 0, 0);
        fault("hill 1", 0, 0);
        fault("look 1;", 7, 0);
        fault("look 1 2", 7, 0);
        fault("look 1 feet", 7, 0);
        fault("look 123456", 5, 1);
        fault("look 1 + 000000", 9, 1);
        fault("look -1", 5, 0);
        fault("look 1 + + 1", 9, 0);
        fault("look feat", 5, 0);
        fault("look feetif 1=1", 5, 0);
        fault("look if", 5, 0);
        fault("look (1)", 5, 0);
        fault("look 1 if", 9, 0);
        fault("look 1 if 1", 11, 0);
        fault("look 1 if 1 = ", 14, 0);
        fault("look 1 if 1 =< 2", 13, 0);
        fault("look 1 if 1 < = 2", 14, 0);
        fault("look 1 if 1 > = 2", 14, 0);
        fault("look 1 if 1 == 2", 13, 0);
        fault("look 1 if 1 ! 2", 12, 0);
        fault("look 1 if 1 = 2 = 3", 16, 0);
        fault("look 1 if 1 = 2 and", 19, 0);
        fault("look 1 if 1 = 2 and or 1 = 1", 20, 0);
        fault("look 1 if 1 = 2 not 1 = 1", 16, 0);
        fault("look 1 if 1 = 2 if 1 = 1", 16, 0);
        fault("look 1 if [1 = 2", 16, 0);
        fault("look 1 if [1 = 2;look 1", 16, 0);
        fault("look 1 if 1 = 2]", 15, 0);
        fault("look 1 if [1] = 2", 12, 0);
        fault("look 1 if not", 13, 0);
        fault("look 1 and 1 = 1", 7, 0);
        fault("look 1 @", 7, 0);
        fault("look 1 if 1<=", 13, 0);
        fault("look 1 if 1>", 12, 0);
        for (String end : new String[] {"1<", "1<=", "1", "not", "[", "1=1 and", "1=1 o", "1+"}) {
            String start = "look 1 if ";
            fault(start + " ".repeat(400 - start.length() - end.length()) + end, end.equals("1=1 o") ? 399 : 400, 0);
        }
        fine("look 1 if " + " ".repeat(387) + "1=1");
        fine("look 1" + " ".repeat(394));
        fine("look 1");
        fine("  look  99999  +00000 ");
        fine("look1if1=1and2=2or[3=3]");
        fine("look 1 if 1<2 and 1<=2 and 1=1 and 1>=1 and 1>0");
        fine("look feet;look 1if 1=1;look 2");
    }

    private static void depth() {
        fine("look 1 if " + TEN + "1=1" + "]".repeat(10));
        fault("look 1 if " + TEN + "[1=1" + "]".repeat(11), 20, 2);
        fine("look 1 if " + "not ".repeat(10) + "1=1");
        fault("look 1 if " + "not ".repeat(11) + "1=1", 50, 2);
        fine("look 1 if " + "not[".repeat(5) + "1=1" + "]".repeat(5));
        fault("look 1 if " + "not[".repeat(5) + " not 1=1", 31, 2);
        fault("look 1 if " + TEN + "nota", 20, 0);
        fine("look 1 if " + TEN + "1=1" + "]".repeat(10) + " and " + TEN + "1=1" + "]".repeat(10));
        fine("look 1 if " + "not [1=1] and ".repeat(11) + "1=1");
    }

    private static void tooManyValues() {
        fine("look 1" + "+1".repeat(59));
        fault("look 1" + "+1".repeat(60), 5 + 120, 3);
        fault("look 1" + "+1".repeat(59) + " + feet", 6 + 118 + 3, 3);
        fault("look 1" + "+1".repeat(59) + " + feat", 6 + 118 + 3, 0);
        fault("look 1" + "+1".repeat(59) + "+123456", 6 + 118 + 1, 1);
        String fiftyFive = "look 1 if 1=1" + " or 1=1".repeat(17);
        int end = fiftyFive.length();
        fine(fiftyFive + " or 1=1+0*0");
        fault(fiftyFive + " or 1=1+0*0-0", end + 12, 3);
        fault(fiftyFive + " or 1+0+0=1+0", end + 12, 3);
        fault(fiftyFive + " or 1+1+1+1+1 <1", end + 14, 3);
        fault(fiftyFive + " or 1+1+1+1+1 !1", end + 14, 0);
        fault(fiftyFive + " or 1+1+1+1=feet", end + 12, 3);
        fault("look 1;look 1" + "+1".repeat(59), 13 + 118 - 1, 3);
    }

    private static void tooManyClauses() {
        String twelve = "look 1;".repeat(11) + "look 1";
        fine(twelve);
        fault(twelve + "; look 1", twelve.length() + 2, 4);
        fault(twelve + "; lock 1", twelve.length() + 2, 0);
        fault(twelve + ";", twelve.length() + 1, 0);
    }

    /** Whether a TEST holds for the last STONE and the first SEEKER. */
    private static void holds(String test, boolean due) {
        TinWall wall = Check.told(HILL, "look 1 if stone=2 and [" + test + "]");
        wall.force(0);
        Check.is(test, wall.today(0, 0), due ? 2 : 0);
    }

    private static void sums() {
        holds("2+3*4=14", true);
        holds("2*3+4=10", true);
        holds("10-2-3=5", true);
        holds("10-2+3=11", true);
        holds("7*5/2%4=1", true);
        holds("100/7/2=7", true);
        holds("17%10%4=3", true);
        holds("1+2*3%4-5=0-2", true);
        holds("5/0=0", true);
        holds("5%0=0", true);
        holds("99999*99999=9999*99999+90000*99999", true);
        String least = "32768*32768*32768*32768*8";
        holds(least + "<0", true);
        holds(least + "-1>0", true);
        holds(least + "*2=0", true);
        holds(least + "%3=0-2", true);
        holds(least + "/65536/65536/65536=0-32768", true);
        holds(least + "/65536/65536/65536/3=0-10922", true);
        holds("0-7%2=0-1", true);
    }

    private static void tests() {
        String[] signs = {"<", "<=", "=", ">=", ">"};
        boolean[][] holds = {{true, false, false}, {true, true, false}, {false, true, false}, {false, true, true}, {false, false, true}};
        for (int i = 0; i < signs.length; i++) {
            for (int left = 1; left <= 3; left++) {
                holds(left + signs[i] + "2", holds[i][left - 1]);
            }
        }
        holds("1=1 or 1=1 and 1=2", true);
        holds("[1=1 or 1=1] and 1=2", false);
        holds("1=2 and 1=1 or 1=1", true);
        holds("1=2 and [1=1 or 1=1]", false);
        holds("1=2 or 1=2 or 1=1", true);
        holds("1=1 and 1=1 and 1=2", false);
        holds("1=1 and 1=2 or 1=1 and 1=1", true);
        holds("not 1=1 or 1=1", true);
        holds("not [1=1 or 1=1]", false);
        holds("not 1=2 and 1=2", false);
        holds("not not 1=1", true);
        holds("not not not 1=1", false);
    }

    private static void words() {
        holds("seeker=0", true);
        holds("stone=2", true);
        holds("feet=70", true);
        holds("hard=13", true);
        holds("odds=5", true);
        holds("wear=0", true);
        holds("figure=30", true);
        holds("off=40", true);
        holds("minutes=12", true);
        holds("skill=1", true);
        holds("vain=0", true);
        holds("tried=0", true);
        holds("found=0", true);
        holds("day=0", true);
        TinWall wall = Check.told(HILL, "look off", "look 1 if seeker=1 and stone=1", "look 1 if wear=8 and stone=2",
            "look 1 if minutes=10 and vain=4 and tried=1 and day=4 and stone=2", "look 1 if figure=60 and off=10",
            "look 0-skill*stone if found=0");
        wall.force(0);
        Check.is("off 20, 10, 40", wall.today(0, 0) * 100 + wall.today(0, 1) * 10 + wall.today(0, 2), 201);
        wall.force(1);
        Check.is("another SEEKER's order", wall.today(1, 0) * 10 + wall.today(0, 0), 10);
        for (int i = 0; i < 4; i++) {
            wall.day();
        }
        wall.force(2);
        Check.is("wear", wall.today(0, 0), 2);
        wall.force(3);
        Check.is("minutes, vain, tried, day", wall.today(0, 0), 2);
        wall.figure(60);
        wall.force(4);
        Check.is("figure and off", wall.today(0, 0), 2);
        wall.force(5);
        Check.is("skill", wall.today(0, 0), 0);
        foundWord();
    }

    /** On one DAY the next SEEKER knows that the one ahead has FOUND it, and sees the WEAR. */
    private static void foundWord() {
        String hill = "hill 0 50 0;stone 1 1 1;stone 2 1 1;stone 3 1 1;tin 0;seeker 0 1 0 0;seeker 0 1 0 0";
        TinWall wall = Check.told(hill, "look stone if found=1", "look stone if wear=0 and seeker=1", "look tried*10-stone");
        wall.force(0);
        Check.is("the first one FINDS it", wall.day(), 1);
        Check.is("the second looked at the last", wall.seeker(1, 6), 4);
        wall.undo();
        wall.force(1);
        Check.is("WEAR of the same DAY", wall.day(), 1);
        Check.is("the second looked where no WEAR is", wall.seeker(1, 6), 4);
        wall.force(2);
        wall.hide(1);
        Check.is("TRIED by the SEEKER alone", wall.today(0, 0) * 10 + wall.today(1, 0), 2);
    }

    private static void clauses() {
        TinWall wall = Check.told(HILL, "look 9 if stone=1;look 5 if stone>=1;look 7", "look 0-5;look stone*100",
            "look 0-1 if stone<2", "look 1 if stone=0;look 0-1 if stone=1", "look stone/2");
        wall.force(0);
        orderIs(wall, 102);
        wall.force(1);
        orderIs(wall, 12);
        wall.force(2);
        orderIs(wall, 201);
        wall.force(3);
        orderIs(wall, 21);
        wall.force(4);
        orderIs(wall, 201);
        TinWall many = Check.told(HILL, "look stone if 1=2;".repeat(11) + "look stone if 1=2",
            "look 5 if 1=2;".repeat(11) + "look stone if 1=1");
        many.force(0);
        orderIs(many, 12);
        many.force(1);
        orderIs(many, 210);
        Check.is("a sixth", Check.rule(wall, "look 1 if not stone<2"), 5);
        wall.force(5);
        orderIs(wall, 201);
        wall.force(-1);
        orderIs(wall, 102);
        wall.figure(15);
        orderIs(wall, 12);
    }

    private static void orderIs(TinWall wall, int due) {
        Check.is("order of the three", wall.today(0, 0) * 100 + wall.today(0, 1) * 10 + wall.today(0, 2), due);
    }

    private static void force() {
        TinWall wall = Check.told(HILL, "look 1", "look 2");
        Check.is("force 2", wall.force(2), -2);
        Check.is("force -2", wall.force(-2), -2);
        Check.is("force far off", wall.force(Integer.MAX_VALUE), -2);
        Check.is("force 1", wall.force(1), -1);
        Check.is("force 1 again", wall.force(1), 1);
        Check.is("force 2 beyond", wall.force(2), -2);
        Check.is("still in force", wall.count(7), 1);
        Check.is("force 0", wall.force(0), 1);
        Check.is("force none", wall.force(-1), 0);
        Check.is("none in force", wall.count(7), -1);
    }

    private static void sixRules() {
        TinWall wall = Check.told(HILL, "look 1", "look stone", "look 1", "look 1", "look 1");
        Check.is("a faulty RULE", Check.rule(wall, "look stone*5 if 1=1 or"), Check.fault(22, 0));
        Check.is("the TAPE is empty", wall.count(15), 0);
        Check.is("RULES", wall.count(6), 5);
        Check.is("the sixth", Check.rule(wall, "look 0-stone"), 5);
        Check.is("RULES then", wall.count(6), 6);
        Check.is("a seventh", Check.rule(wall, "look 1"), -1);
        Check.is("the TAPE stays", wall.count(15), 6);
        wall.force(1);
        orderIs(wall, 210);
        wall.force(5);
        orderIs(wall, 12);
    }
}
