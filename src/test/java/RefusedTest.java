/**
 * "NONE, and nothing happens", "-2, and nothing happens", "without these", "By what is asked nothing changes":
 * a wall on which such a call was made tells, answers, undoes and goes back as one on which it was not.
 */
public final class RefusedTest {
    private static final String HILL = "hill 50 2 20;stone 50 4 1;stone 60 4 2;tin 0;thing 9;thing 4;"
        + "seeker 0 4 3 1;seeker 0 4 5 0;walker 2";
    private static final int LEAST = Integer.MIN_VALUE;
    private static final int MOST = Integer.MAX_VALUE;

    private interface Call {
        int on(TinWall wall);
    }

    private interface State {
        TinWall made();
    }

    private RefusedTest() {
    }

    public static void main(String[] args) {
        withoutHill();
        tape();
        texts();
        rules();
        acts();
        forget();
        gone();
        full();
        others();
        wrongNumbers(RefusedTest::rich);
        wrongNumbers(RefusedTest::full20);
        asked(RefusedTest::rich);
        asked(RefusedTest::full20);
        asked(RefusedTest::goneTin);
        Check.done();
    }

    /** The call answers what is due, and nothing else is otherwise. */
    private static void nothing(String what, State state, Call call, int due) {
        TinWall with = state.made();
        TinWall without = state.made();
        Check.is(what, call.on(with), due);
        Check.same("after " + what, Seen.drained(with), Seen.drained(without));
    }

    /** As nothing(), but for the TAPE, which is empty then. */
    private static void nothingButTape(String what, State state, Call call, int due) {
        nothing(what, () -> {
            TinWall wall = state.made();
            wall.end(0);
            return wall;
        }, wall -> call.on(wall), due);
    }

    // ---- states

    private static TinWall nothingTold() {
        TinWall wall = new TinWall();
        wall.seed(3);
        Check.tape(wall, "look 3");
        return wall;
    }

    /** DAY 2; the tin is behind STONE 1, which has WEAR 1, STONE 0 has none; both have FOUND it; four ACTS. */
    private static TinWall rich() {
        TinWall wall = Check.told(HILL, "look stone", "look 0-off if day>=1");
        wall.force(1);
        wall.seed(77);
        wall.name(2, 1);
        wall.name(0, 0);
        wall.image(1);
        wall.day();
        wall.figure(60);
        wall.rest(0);
        wall.image(3);
        wall.day();
        Check.tape(wall, "look 5 if wear=1");
        return wall;
    }

    /** SEEKER 1 has not FOUND it; one ACT. */
    private static TinWall half() {
        TinWall wall = Check.told(HILL);
        wall.day();
        return wall;
    }

    private static TinWall goneTin() {
        TinWall wall = Check.told(HILL.replace("walker 2", "walker 0").replace("3 1", "3 0"));
        wall.day();
        return wall;
    }

    /** Six RULES, ten NAMES, twenty ACTS and more, a TAPE with no room for twenty bytes. */
    private static TinWall full20() {
        TinWall wall = Check.told(HILL, "look 1", "look 2", "look 3", "look 4", "look stone", "look off");
        for (int i = 0; i < 10; i++) {
            wall.name(i % 2, i % 2);
        }
        for (int figure = 1; figure < 24; figure++) {
            wall.figure(figure);
        }
        Check.tape(wall, "look 1" + " ".repeat(375));
        return wall;
    }

    // ---- refused

    private static void withoutHill() {
        State state = RefusedTest::nothingTold;
        nothing("day", state, wall -> wall.day(), -1);
        nothing("hide", state, wall -> wall.hide(0), -2);
        nothing("rest", state, wall -> wall.rest(0), -1);
        nothing("figure", state, wall -> wall.figure(5), -1);
        nothing("forget", state, wall -> wall.forget(0), -1);
        nothing("undo", state, wall -> wall.undo(), -2);
        nothing("name", state, wall -> wall.name(0, 0), -2);
        nothing("no names", state, wall -> wall.name(-1, 0), 0);
        nothing("force", state, wall -> wall.force(0), -2);
        nothing("back", state, wall -> wall.back(0), -1);
        nothing("stone", state, wall -> wall.stone(0, 0), -1);
        nothing("seeker", state, wall -> wall.seeker(0, 0), -2);
        nothing("thing", state, wall -> wall.thing(0), -1);
        nothing("ahead 0", state, wall -> wall.ahead(0, 0, 0), -2);
        nothing("ahead 1", state, wall -> wall.ahead(0, 0, 1), -2);
        nothing("ahead 2", state, wall -> wall.ahead(0, 0, 2), -2);
        nothing("today", state, wall -> wall.today(0, -1), -3);
        nothing("first", state, wall -> wall.first(0), -1);
        nothing("hiding", state, wall -> wall.hiding(1, 0), -1);
        nothing("order", state, wall -> wall.order(0, 0), -1);
        nothing("mean", state, wall -> wall.mean(0, 0), -1);
        nothing("gone", state, wall -> wall.gone(1), -1);
        nothing("hint", state, wall -> wall.hint(0), -1);
        nothing("worth", state, wall -> wall.worth(0), -1);
        nothing("wanders", state, wall -> wall.wanders(1), -1);
        nothing("shows", state, wall -> wall.shows(0), -1);
        nothing("ruled", state, wall -> wall.ruled(0), -3);
        nothing("ask", state, wall -> wall.ask(0), -1);
        nothing("forged", state, wall -> wall.forged(), -1);
        nothing("years", state, wall -> wall.years(1, 1, 0, 0), -1);
    }

    private static void tape() {
        nothing("feed, 381 bytes there", RefusedTest::full20, wall -> wall.feed(1, 2, 3, 4, 5), -1);
        nothing("end, one more than it has", RefusedTest::rich, wall -> wall.end(17), -1);
        nothing("end, as many as it has", RefusedTest::rich, wall -> wall.end(16), 16);
        nothing("end -1", RefusedTest::rich, wall -> wall.end(-1), -1);
        nothing("end, the least", RefusedTest::rich, wall -> wall.end(LEAST), -1);
        nothing("end, the most", RefusedTest::rich, wall -> wall.end(MOST), -1);
    }

    private static int told(TinWall wall, String text, boolean hill) {
        Check.tape(wall, text);
        return hill ? wall.hill() : wall.rule();
    }

    /** The whole text is read before anything of it is so. */
    private static void texts() {
        String other = "hill 1 1 1;stone 1 1 1;stone 2 2 2;stone 3 3 3;tin 2;thing 1;seeker 1 1 1 1;walker 1";
        for (String end : new String[] {"x", ";", ";hill 1 1 1", ";tin 3", ";thing 100", " 1"}) {
            int kind = end.equals(";hill 1 1 1") ? 4 : end.length() > 2 ? 1 : 0;
            int place = other.length() + (kind == 1 ? end.lastIndexOf(' ') + 1 : end.equals("x") ? 0 : 1);
            nothingButTape("hill with " + end, RefusedTest::rich, wall -> told(wall, other + end, true), Check.fault(place, kind));
            nothingButTape("hill with " + end, RefusedTest::nothingTold, wall -> told(wall, other + end, true), Check.fault(place, kind));
        }
        String rule = "look 5;look stone if 1=1";
        nothingButTape("rule with or", RefusedTest::rich, wall -> told(wall, rule + " or", false), Check.fault(27, 0));
        nothingButTape("rule with 123456", RefusedTest::rich, wall -> told(wall, rule + "+123456", false), Check.fault(25, 1));
        nothingButTape("rule of nothing", RefusedTest::rich, wall -> told(wall, "", false), Check.fault(0, 0));
        nothingButTape("hill of nothing", RefusedTest::rich, wall -> told(wall, "", true), Check.fault(0, 0));
    }

    private static void rules() {
        nothing("a seventh rule", RefusedTest::full20, wall -> wall.rule(), -1);
        nothing("force 6 of 6", RefusedTest::full20, wall -> wall.force(6), -2);
        nothing("force 2 of 2", RefusedTest::rich, wall -> wall.force(2), -2);
        nothing("force -2", RefusedTest::rich, wall -> wall.force(-2), -2);
        nothing("force, the least", RefusedTest::rich, wall -> wall.force(LEAST), -2);
        nothing("force, the most", RefusedTest::rich, wall -> wall.force(MOST), -2);
        nothing("the one in force", RefusedTest::rich, wall -> wall.force(1), 1);
    }

    private static void acts() {
        State state = RefusedTest::rich;
        nothing("hide where it is", state, wall -> wall.hide(1), -2);
        nothing("rest without WEAR", state, wall -> wall.rest(0), -1);
        nothing("the same FIGURE", state, wall -> wall.figure(60), -1);
        nothing("figure 100", state, wall -> wall.figure(100), -1);
        nothing("figure -1", state, wall -> wall.figure(-1), -1);
        nothing("figure, the least", state, wall -> wall.figure(LEAST), -1);
        nothing("figure, the most", state, wall -> wall.figure(MOST), -1);
        for (int wrong : new int[] {-1, 2, LEAST, MOST}) {
            nothing("hide " + wrong, state, wall -> wall.hide(wrong), -2);
            nothing("rest " + wrong, state, wall -> wall.rest(wrong), -1);
            nothing("forget " + wrong, state, wall -> wall.forget(wrong), -1);
        }
        nothing("undo of nothing", () -> Check.told(HILL), wall -> wall.undo(), -2);
    }

    private static void forget() {
        nothing("forget who has not FOUND it", RefusedTest::half, wall -> wall.forget(1), -1);
        nothing("forget before any DAY", () -> Check.told(HILL), wall -> wall.forget(0), -1);
        nothing("forget twice", () -> {
            TinWall wall = half();
            wall.forget(0);
            return wall;
        }, wall -> wall.forget(0), -1);
    }

    private static void gone() {
        TinWall wall = goneTin();
        Check.is("it is gone", wall.count(9), -1);
        nothing("hide behind no STONE", RefusedTest::goneTin, it -> it.hide(-1), -2);
        nothing("hide beyond", RefusedTest::goneTin, it -> it.hide(2), -2);
    }

    private static void full() {
        State state = RefusedTest::full20;
        nothing("an eleventh name", state, wall -> wall.name(0, 0), -2);
        nothing("what is undone and done again", state, wall -> wall.undo() - 19 + wall.figure(23) - 22, 0);
    }

    private static void others() {
        State state = RefusedTest::rich;
        for (int wrong : new int[] {61, -2, LEAST, MOST}) {
            nothing("name on " + wrong, state, wall -> wall.name(wrong, 0), -2);
        }
        for (int wrong : new int[] {2, -1, LEAST, MOST}) {
            nothing("name of " + wrong, state, wall -> wall.name(0, wrong), -2);
        }
        nothing("seed -1", state, wall -> wall.seed(-1), -1);
        nothing("seed, the least", state, wall -> wall.seed(LEAST), -1);
        nothing("the same x", state, wall -> wall.seed(77), 77);
        for (int wrong : new int[] {4, -1, LEAST, MOST}) {
            nothing("image " + wrong, state, wall -> wall.image(wrong), -1);
            nothing("back " + wrong, state, wall -> wall.back(wrong), -1);
        }
        nothing("back to what was never made", state, wall -> wall.back(0), -1);
        nothing("back to another that was not", state, wall -> wall.back(2), -1);
    }

    // ---- asked

    private static void wrongNumbers(State state) {
        for (int wrong : new int[] {-1, 2, LEAST, MOST}) {
            nothing("stone " + wrong, state, wall -> wall.stone(wrong, 0), -1);
            nothing("seeker " + wrong, state, wall -> wall.seeker(wrong, 0), -2);
            nothing("thing " + wrong, state, wall -> wall.thing(wrong), -1);
            nothing("ahead of stone " + wrong, state, wall -> wall.ahead(wrong, 5, 1), -2);
            nothing("ahead of seeker " + wrong, state, wall -> wall.ahead(wrong, 5, 2), -2);
            nothing("today " + wrong, state, wall -> wall.today(wrong, 0), -3);
            nothing("first " + wrong, state, wall -> wall.first(wrong), -1);
            nothing("hiding what " + wrong, state, wall -> wall.hiding(5, wrong), -1);
            nothing("order of " + wrong, state, wall -> wall.order(wrong, 0), -1);
            nothing("mean of " + wrong, state, wall -> wall.mean(wrong, 0), -1);
            nothing("mean part " + wrong, state, wall -> wall.mean(0, wrong), -1);
            nothing("gone " + wrong, state, wall -> wall.gone(wrong), -1);
            nothing("hint " + wrong, state, wall -> wall.hint(wrong), -1);
            nothing("shows " + wrong, state, wall -> wall.shows(wrong), -1);
            nothing("ruled " + wrong, state, wall -> wall.ruled(wrong), -3);
            nothing("ask " + wrong, state, wall -> wall.ask(wrong), -1);
            nothing("years what " + wrong, state, wall -> wall.years(1, 1, 1, wrong), -1);
        }
        for (int wrong : new int[] {-1, 101, LEAST, MOST}) {
            nothing("ahead by " + wrong, state, wall -> wall.ahead(0, wrong, 0), -2);
            nothing("worth of " + wrong, state, wall -> wall.worth(wrong), -1);
            nothing("wanders in " + wrong, state, wall -> wall.wanders(wrong), -1);
            nothing("years below " + wrong, state, wall -> wall.years(1, 1, wrong, 0), -1);
        }
        for (int wrong : new int[] {0, 61, -1, LEAST, MOST}) {
            nothing("hiding for " + wrong, state, wall -> wall.hiding(wrong, 0), -1);
            nothing("years of " + wrong, state, wall -> wall.years(1, wrong, 0, 0), -1);
        }
        for (int wrong : new int[] {0, 11, -1, LEAST, MOST}) {
            nothing(wrong + " years", state, wall -> wall.years(wrong, 1, 0, 0), -1);
        }
        nothing("wanders in 0", state, wall -> wall.wanders(0), -1);
        for (int wrong : new int[] {-1, LEAST}) {
            nothing("order k " + wrong, state, wall -> wall.order(0, wrong), -1);
        }
        for (int wrong : new int[] {-2, LEAST}) {
            nothing("today k " + wrong, state, wall -> wall.today(0, wrong), -3);
        }
        for (int wrong : new int[] {-1, 3, LEAST, MOST}) {
            nothing("ahead what " + wrong, state, wall -> wall.ahead(0, 5, wrong), -2);
        }
        for (int wrong : new int[] {-1, 5, LEAST, MOST}) {
            nothing("stone what " + wrong, state, wall -> wall.stone(0, wrong), -1);
        }
        for (int wrong : new int[] {-1, 7, LEAST, MOST}) {
            nothing("seeker what " + wrong, state, wall -> wall.seeker(0, wrong), -2);
        }
        for (int wrong : new int[] {-1, 16, LEAST, MOST}) {
            nothing("count " + wrong, state, wall -> wall.count(wrong), -1);
        }
    }

    /** By what is asked nothing changes, however far it looks. */
    private static void asked(State state) {
        Call[] calls = {
            wall -> wall.ahead(0, 100, 0), wall -> wall.ahead(1, 100, 1), wall -> wall.ahead(1, 100, 2),
            wall -> wall.today(0, -1), wall -> wall.today(1, 0), wall -> wall.first(0), wall -> wall.first(1),
            wall -> wall.hiding(60, 0), wall -> wall.hiding(60, 1), wall -> wall.order(1, 1), wall -> wall.mean(1, 1),
            wall -> wall.gone(0), wall -> wall.hint(0), wall -> wall.worth(100), wall -> wall.wanders(100),
            wall -> wall.shows(0), wall -> wall.shows(1), wall -> wall.ruled(0), wall -> wall.ruled(1),
            wall -> wall.ask(0), wall -> wall.ask(1), wall -> wall.forged(), wall -> wall.years(10, 60, 50, 0),
            wall -> wall.years(10, 60, 100, 1)};
        for (int i = 0; i < calls.length; i++) {
            Call call = calls[i];
            int due = call.on(state.made());
            nothing("asked " + i + " again", state, wall -> {
                call.on(wall);
                return call.on(wall);
            }, due);
        }
    }
}
