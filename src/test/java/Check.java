/** What the tests share: comparing answers, and telling texts to a TinWall. */
final class Check {
    private static int wrong = 0;
    private static int compared = 0;

    private Check() {
    }

    static void is(String call, long got, long want) {
        compared++;
        if (got != want) {
            wrong++;
            System.out.println(call + " answered " + got + ", due is " + want);
        }
    }

    static void same(String what, String got, String want) {
        compared++;
        if (!got.equals(want)) {
            wrong++;
            System.out.println(what + " is " + got + ", due is " + want);
        }
    }

    /** Ends the test: with exit code 1, if an answer was wrong. */
    static void done() {
        System.out.println(compared + " compared, " + wrong + " wrong");
        if (wrong != 0) {
            System.exit(1);
        }
    }

    /** Puts a text on the empty TAPE. */
    static void tape(TinWall wall, String text) {
        for (int from = 0; from < text.length(); from += 20) {
            wall.feed(word(text, from), word(text, from + 4), word(text, from + 8), word(text, from + 12), word(text, from + 16));
        }
        wall.end(text.length());
    }

    static int word(String text, int from) {
        int word = 0;
        for (int i = from; i < from + 4; i++) {
            word = word << 8 | (i < text.length() ? text.charAt(i) & 255 : 0);
        }
        return word;
    }

    static int hill(TinWall wall, String text) {
        tape(wall, text);
        return wall.hill();
    }

    static int rule(TinWall wall, String text) {
        tape(wall, text);
        return wall.rule();
    }

    /** The same DAY after DAY. */
    static void days(TinWall wall, int many) {
        for (int i = 0; i < many; i++) {
            wall.day();
        }
    }

    /** A new object with a HILL, and RULES, none of them IN FORCE. */
    static TinWall told(String hill, String... rules) {
        TinWall wall = new TinWall();
        int stones = hill(wall, hill);
        if (stones < 0) {
            is("a HILL without a FAULT: " + hill, stones, 0);
        }
        for (int i = 0; i < rules.length; i++) {
            is("rule " + rules[i], rule(wall, rules[i]), i);
        }
        return wall;
    }

    /** What hill() or rule() answers at a FAULT. */
    static int fault(int place, int kind) {
        return -2 - (1 + 8 * place + kind);
    }
}
