import java.util.Map;
import java.util.TreeMap;

/** What a TinWall tells of itself, to compare it before and after a call, or with another one. */
final class Seen {
    private Seen() {
    }

    /** All that count, stone, seeker and thing tell, by call. */
    static Map<String, Integer> all(TinWall wall) {
        Map<String, Integer> all = new TreeMap<>();
        for (int what = 0; what < 16; what++) {
            all.put("count(" + what + ")", wall.count(what));
        }
        for (int stone = 0; stone < wall.count(3); stone++) {
            for (int what = 0; what < 5; what++) {
                all.put("stone(" + stone + "," + what + ")", wall.stone(stone, what));
            }
        }
        for (int seeker = 0; seeker < wall.count(5); seeker++) {
            for (int what = 0; what < 7; what++) {
                all.put("seeker(" + seeker + "," + what + ")", wall.seeker(seeker, what));
            }
        }
        for (int thing = 0; thing < wall.count(4); thing++) {
            all.put("thing(" + thing + ")", wall.thing(thing));
        }
        return all;
    }

    /** What is told otherwise after than before, as "call=answer", one behind the other. */
    static String changed(Map<String, Integer> before, Map<String, Integer> after) {
        StringBuilder text = new StringBuilder();
        for (String call : before.keySet()) {
            if (!before.get(call).equals(after.get(call))) {
                text.append(call).append('=').append(after.get(call)).append(' ');
            }
        }
        for (String call : after.keySet()) {
            if (!before.containsKey(call)) {
                text.append(call).append('=').append(after.get(call)).append(" new ");
            }
        }
        return text.toString().strip();
    }

    /**
     * All that can be got out of a TinWall: what it tells, what it answers when asked, then, one UNDONE
     * after the other, what ACTS it had, then its IMAGES, and last what is on its TAPE. It is used up by that.
     */
    static String drained(TinWall wall) {
        StringBuilder text = new StringBuilder("told " + all(wall));
        asked(wall, text);
        for (int left = wall.undo(); left >= 0; left = wall.undo()) {
            text.append("\nundone ").append(left);
            acted(wall, text);
        }
        brief(wall, text);
        for (int k = 0; k < 4; k++) {
            text.append("\nimage ").append(wall.back(k));
            brief(wall, text);
            text.append(' ').append(wall.ruled(0)).append(' ').append(wall.forged());
        }
        text.append("\nrule ").append(wall.rule()).append(' ').append(wall.count(6));
        text.append("\nhill ").append(wall.hill());
        brief(wall, text);
        return text.toString();
    }

    private static void asked(TinWall wall, StringBuilder text) {
        text.append("\nasked");
        for (int seeker = 0; seeker < 2; seeker++) {
            for (int k = -1; k < 2; k++) {
                text.append(' ').append(wall.today(seeker, k));
            }
            text.append(' ').append(wall.order(seeker, 0)).append(' ').append(wall.mean(seeker, 0));
        }
        for (int what = 0; what < 2; what++) {
            text.append(' ').append(wall.first(what)).append(' ').append(wall.hiding(3, what));
            text.append(' ').append(wall.gone(what)).append(' ').append(wall.hint(what));
            text.append(' ').append(wall.shows(what)).append(' ').append(wall.ask(what));
            text.append(' ').append(wall.ruled(what)).append(' ').append(wall.years(3, 7, 40, what));
        }
        text.append(' ').append(wall.worth(5)).append(' ').append(wall.wanders(5)).append(' ').append(wall.forged());
        text.append(' ').append(wall.ahead(0, 9, 0)).append(' ').append(wall.ahead(0, 9, 1)).append(' ').append(wall.ahead(0, 9, 2));
    }

    /** What ACTS change, in few calls: an object has but 512. */
    private static void acted(TinWall wall, StringBuilder text) {
        text.append(' ').append(wall.count(0)).append(' ').append(wall.count(8)).append(' ').append(wall.count(9));
        text.append(' ').append(wall.count(10)).append(" wear ").append(wall.stone(0, 3)).append(' ').append(wall.stone(1, 3));
        text.append(" carried ").append(wall.seeker(0, 2)).append(' ').append(wall.thing(0));
    }

    private static void brief(TinWall wall, StringBuilder text) {
        for (int what : new int[] {7, 12, 13, 14}) {
            text.append(' ').append(wall.count(what));
        }
        acted(wall, text);
    }
}
