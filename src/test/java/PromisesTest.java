/** Each promise of the document by its number: ordinary inputs, the edges that are named, wrong inputs. */
public final class PromisesTest {
    private static final int NONE = ScriptTests.NONE, UNKNOWN = ScriptTests.UNKNOWN, OUTSIDE = ScriptTests.OUTSIDE;
    private static final int STATE = ScriptTests.STATE, FULL = ScriptTests.FULL;
    private static int wrong = 0;

    private static void due(String what, long got, long want) {
        if (got == want) return;
        wrong++;
        System.out.println(what + " answered " + got + ", due is " + want);
    }

    // ---- ways to put things in

    private static ScriptTests feed(ScriptTests x, String bytes) {
        for (int i = 0; i < bytes.length(); i++) x.feed(bytes.charAt(i), 1);
        return x;
    }

    private static int word(ScriptTests x, String bytes) { return feed(x, bytes).word(); }
    private static int text(ScriptTests x, String bytes) { return feed(x, bytes).text(); }
    private static int script(ScriptTests x, String bytes) { return feed(x, bytes).script(); }
    private static int replay(ScriptTests x, String bytes) { return feed(x, bytes).replay(); }

    /** How many LINES fail if these are run, or what script() refuses them with. */
    private static int run(ScriptTests x, String bytes) {
        int number = script(x, bytes);
        return number < 0 ? number : x.run(number);
    }

    /** A STORY with WORDS a, b, .. and the TEXTS told. */
    private static ScriptTests story(int words, String... texts) {
        ScriptTests x = new ScriptTests(7);
        for (int i = 0; i < words; i++) word(x, String.valueOf((char) ('a' + i)));
        for (String t : texts) text(x, t);
        return x;
    }

    /** A RULE for any ROOM, without a FLAG, that shows TEXT 0 and stays. */
    private static int act(ScriptTests x, int word, int act, int a, int b) {
        return x.rule(-1, word, -1, 0, act, a, b, 0, -1);
    }

    private static int draw(int seed) { return seed * 1103515245 + 12345; }
    private static int drawn(int seed, int below) { return (seed >> 16 & 0x7fff) % below; }

    private static String repeat(String s, int n) { return s.repeat(n); }

    // ---- the promises

    private static void newObject() {
        ScriptTests x = new ScriptTests(-5);
        for (int what = 0; what <= 7; what++) due("1 told " + what, x.told(what), 0);
        due("1 room", x.state(0), 0);
        due("1 end", x.state(1), 0);
        due("1 seed", x.state(2), -5);
        due("1 text", x.state(3), -2);
        for (int what = 4; what <= 11; what++) due("1 flag", x.state(what), 0);
        due("1 play", x.play(), 0);
        due("1 shown ?", x.shown(-1), 0);
        due("1 seed told", x.seed(0), -5);
        for (int h = 0; h < 4; h++) {
            ScriptTests y = story(1, "t");
            act(y, 0, 4, h, 0);
            run(y, "> a");
            due("1 holder has nothing", y.failed(0, 1), 1);
        }
        ScriptTests one = story(2, "t");
        due("1 objects are apart", new ScriptTests(1).told(1), 0);
        due("1 this one has words", one.told(1), 2);
    }

    private static void feeding() {
        ScriptTests x = new ScriptTests(0);
        due("2 n 0", x.feed(1, 0), OUTSIDE);
        due("2 n 9", x.feed(1, 9), OUTSIDE);
        due("2 n below", x.feed(1, Integer.MIN_VALUE), OUTSIDE);
        due("2 high byte first", x.feed(0x7A7A7A6162L, 2), 2);
        due("2 its word", x.word(), 0);
        due("2 ab", word(x, "ab"), 0);
        due("2 used up", x.told(0), 0);
        for (int i = 1; i <= 74; i++) due("2 feed", x.feed(-1L, 8), 8 * i);
        due("2 to 599", x.feed(0, 7), 599);
        due("2 full", x.feed(0, 2), FULL);
        due("2 outside before full", x.feed(0, 9), OUTSIDE);
        due("2 unchanged", x.told(0), 599);
        due("2 to 600", x.feed(0, 1), 600);
        due("2 one more", x.feed(0, 1), FULL);
        due("2 reader uses it up", x.text(), OUTSIDE);
        due("2 empty again", x.told(0), 0);
        due("2 eight letters in order", x.feed(0x6162636465666768L, 8), 8);
        due("2 too long for a word", x.word(), OUTSIDE);
        due("2 six of them", x.feed(0x6162636465666768L, 6), 6);
        due("2 is cdefgh", x.word(), 1);
        due("2 cdefgh", word(x, "cdefgh"), 1);
    }

    private static void words() {
        ScriptTests x = new ScriptTests(0);
        due("3 empty", x.word(), OUTSIDE);
        due("3 big letter", word(x, "Go"), OUTSIDE);
        due("3 sign before a", word(x, "a`"), OUTSIDE);
        due("3 sign behind z", word(x, "z{"), OUTSIDE);
        due("3 blank", word(x, "a b"), OUTSIDE);
        due("3 high byte", word(x, "a\u00e1"), OUTSIDE);
        due("3 seven", word(x, "abcdefg"), OUTSIDE);
        due("3 refused uses up", x.told(0), 0);
        due("3 none yet", x.told(1), 0);
        due("3 six", word(x, "abcdef"), 0);
        due("3 part of it", word(x, "abcde"), 1);
        due("3 z", word(x, "z"), 2);
        due("3 again", word(x, "abcdef"), 0);
        for (int i = 3; i < 16; i++) due("3 more", word(x, "w" + (char) ('a' + i)), i);
        due("3 full", word(x, "q"), FULL);
        due("3 full uses up", x.told(0), 0);
        due("3 outside before full", word(x, "Q"), OUTSIDE);
        due("3 one that is there", word(x, "z"), 2);
        due("3 sixteen", x.told(1), 16);
    }

    private static void texts() {
        ScriptTests x = new ScriptTests(0);
        due("4 empty", x.text(), 0);
        due("4 twenty", text(x, repeat("~", 20)), 1);
        due("4 twenty-one", text(x, repeat(" ", 21)), OUTSIDE);
        due("4 byte 31", text(x, "a\u001f"), OUTSIDE);
        due("4 byte 127", text(x, "a\u007f"), OUTSIDE);
        due("4 byte 200", text(x, "\u00c8"), OUTSIDE);
        due("4 line end", text(x, "a\n"), OUTSIDE);
        due("4 refused uses up", x.told(0), 0);
        due("4 blank", text(x, " "), 2);
        due("4 each gets its own number", text(x, " "), 3);
        for (int i = 4; i < 24; i++) due("4 more", text(x, "t" + i), i);
        due("4 full", text(x, "q"), FULL);
        due("4 outside before full", text(x, "\n"), OUTSIDE);
        due("4 twenty-four", x.told(2), 24);
    }

    private static void rules() {
        ScriptTests x = story(2, "t", "u");
        due("5 word", x.rule(0, 2, -1, 0, 0, 0, 0, 0, 0), UNKNOWN);
        due("5 word below", x.rule(0, -1, -1, 0, 0, 0, 0, 0, 0), UNKNOWN);
        due("5 text", x.rule(0, 0, -1, 0, 0, 0, 0, 2, 0), UNKNOWN);
        due("5 text below", x.rule(0, 0, -1, 0, 0, 0, 0, -1, 0), UNKNOWN);
        due("5 unknown first", x.rule(9, 0, -1, 0, 0, 0, 0, 2, 0), UNKNOWN);
        due("5 room", x.rule(8, 0, -1, 0, 0, 0, 0, 0, 0), OUTSIDE);
        due("5 room below", x.rule(-2, 0, -1, 0, 0, 0, 0, 0, 0), OUTSIDE);
        due("5 to", x.rule(0, 0, -1, 0, 0, 0, 0, 0, 8), OUTSIDE);
        due("5 to below", x.rule(0, 0, -1, 0, 0, 0, 0, 0, -2), OUTSIDE);
        due("5 flag", x.rule(0, 0, 8, 0, 0, 0, 0, 0, 0), OUTSIDE);
        due("5 flag below", x.rule(0, 0, -2, 0, 0, 0, 0, 0, 0), OUTSIDE);
        due("5 act", act(x, 0, 7, 0, 0), OUTSIDE);
        due("5 act below", act(x, 0, -1, 0, 0), OUTSIDE);
        int[][] outside = {
            {1, 8, 0}, {1, -1, 0}, {1, 0, 1001}, {1, 0, -1001}, {2, 8, 0}, {2, -1, 0}, {2, 0, 8}, {2, 0, -1},
            {3, 4, 0}, {3, -1, 0}, {3, 0, 8}, {3, 0, -1}, {4, 4, 0}, {4, -1, 0},
            {5, 8, 1}, {5, -1, 1}, {5, 0, 0}, {5, 0, 101}, {6, 0, 0}, {6, 10, 0},
        };
        for (int[] r : outside) due("5 act " + r[0] + " of " + r[1] + ", " + r[2], act(x, 0, r[0], r[1], r[2]), OUTSIDE);
        due("5 none yet", x.told(3), 0);
        int[][] right = {
            {0, -99, 12345}, {1, 7, 1000}, {1, 0, -1000}, {2, 7, 7}, {3, 3, 7}, {4, 3, -9}, {5, 7, 1}, {5, 0, 100},
            {6, 1, 99}, {6, 9, -1},
        };
        for (int i = 0; i < right.length; i++) due("5 right " + i, act(x, 0, right[i][0], right[i][1], right[i][2]), i);
        due("5 edges", x.rule(7, 1, 7, Integer.MIN_VALUE, 0, 0, 0, 1, 7), 10);
        for (int i = 11; i < 30; i++) due("5 more", act(x, 1, 0, 0, 0), i);
        due("5 full", act(x, 1, 0, 0, 0), FULL);
        due("5 outside before full", act(x, 1, 7, 0, 0), OUTSIDE);
        due("5 unknown before full", act(x, 9, 0, 0, 0), UNKNOWN);
        due("5 thirty", x.told(3), 30);
    }

    private static void whichRule() {
        ScriptTests x = story(2, "any", "two", "flag", "none");
        x.rule(2, 0, -1, 0, 1, 0, 1, 1, 5);
        x.rule(-1, 0, 0, 2, 0, 0, 0, 2, -1);
        x.rule(-1, 0, -1, 0, 1, 0, 1, 0, -1);
        x.rule(-1, 1, -1, 0, 0, 0, 0, 3, 2);
        due("5 order, room, flag",
            run(x, "> a\n= any\n? 0 1\n> a\n? 0 2\n> a\n= flag\n@ 0\n> b\n@ 2\n= none\n> a\n= two\n@ 5\n? 0 3\n> a\n= flag"), 0);
        due("5 done", x.done(0), 1);
        due("5 done", x.done(1), 2);
        due("5 done", x.done(2), 2);
        ScriptTests y = story(1, "t");
        y.rule(0, 0, 3, -4, 1, 3, -5, 0, -1);
        due("5 a least value below 0", run(y, "> a\n= t\n? 3 -5\n> a\n= \\?\n? 3 -5"), 0);
        ScriptTests z = story(1, "t");
        z.rule(0, 0, 0, 1, 0, 0, 0, 0, -1);
        due("5 no rule shows ?", run(z, "> a\n= \\?"), 0);
        due("5 state of it", z.state(3), -1);
        due("5 counted", z.shown(-1), 1);
    }

    private static void acts() {
        ScriptTests x = story(8, "t");
        act(x, 0, 1, 1, 5);
        act(x, 1, 1, 1, -7);
        act(x, 2, 2, 2, 1);
        act(x, 3, 5, 3, 100);
        act(x, 4, 6, 9, 0);
        act(x, 5, 3, 2, 1);
        act(x, 6, 4, 1, 0);
        act(x, 7, 0, 0, 0);
        due("act 1", run(x, "> a a\n? 1 10\n> b\n? 1 3"), 0);
        due("act 2", run(x, "> a\n> c\n? 2 2\n> b\n> c\n? 2 -6"), 0);
        due("act 2 by 0", run(x, "> c"), 1);
        due("fault 4", x.failed(0, 1), 4);
        int s1 = draw(7), s2 = draw(s1);
        due("act 5", run(x, "> d\n? 3 " + drawn(s1, 100) + "\n> d\n? 3 " + drawn(s2, 100)), 0);
        due("seed now", x.state(2), s2);
        due("act 6", run(x, "> e\n! 9"), 0);
        due("act 0", run(x, "> h\n= t\n@ 0"), 0);
        x.holder(2, 2, 2, 40);
        x.holder(1, 1, 0, -8);
        due("act 3, index 0", run(x, "> f\n? 7 40"), 0);
        due("act 3, index 5", run(x, "> a f"), 1);
        due("fault 3", x.failed(0, 1), 3);
        due("act 4", run(x, "> g\n? 7 -8"), 0);
        due("index below 0", storyOfHolder(3, 2, 4, "> b a"), 3);
        due("index 1 of 1", storyOfHolder(3, 2, 1, "> c a"), 3);
        due("index 1 of 2", storyOfHolder(3, 2, 2, "> c a"), 0);
        due("a row of a box", storyOfHolder(3, 1, 4, "> a"), 2);
        due("a row of nothing", storyOfHolder(3, 0, 4, "> a"), 1);
        due("a box of a row", storyOfHolder(4, 2, 1, "> a"), 2);
        due("a box of nothing", storyOfHolder(4, 0, 1, "> a"), 1);
        due("a box", storyOfHolder(4, 1, 0, "> a"), 0);
    }

    private static int storyOfHolder(int act, int sort, int n, String lines) {
        ScriptTests x = story(3, "t");
        act(x, 0, act, 0, 0);
        act(x, 1, 1, 0, -1);
        act(x, 2, 1, 0, 1);
        x.holder(0, sort, n, 3);
        run(x, lines);
        return x.told(6);
    }

    private static void aFaultLeavesTheStory() {
        ScriptTests x = story(3, "t", "u");
        x.rule(0, 0, -1, 0, 1, 1, 3, 1, 4);
        x.rule(4, 1, -1, 0, 2, 1, 0, 0, 6);
        x.rule(-1, 2, -1, 0, 6, 2, 0, 0, -1);
        due("a fault ends the run", run(x, "> a b c\n= t\n@ 7"), 1);
        due("its line", x.failed(0, 0), 1);
        due("its fault", x.failed(0, 1), 4);
        due("room stays", x.state(0), 4);
        due("end stays", x.state(1), 0);
        due("text stays", x.state(3), 1);
        due("flag stays", x.state(5), 3);
        due("not done", x.done(1), 0);
        due("not shown", x.shown(0), 0);
        due("the rest is not said", x.told(7), 2);
    }

    private static void holders() {
        ScriptTests x = new ScriptTests(0);
        due("6 h", x.holder(4, 0, 0, 0), UNKNOWN);
        due("6 h below", x.holder(-1, 9, 0, 0), UNKNOWN);
        due("6 sort", x.holder(0, 3, 1, 0), OUTSIDE);
        due("6 sort below", x.holder(0, -1, 1, 0), OUTSIDE);
        due("6 n 0", x.holder(0, 2, 0, 0), OUTSIDE);
        due("6 n 5", x.holder(0, 2, 5, 0), OUTSIDE);
        due("6 nothing", x.holder(0, 0, -9, 0), 1);
        due("6 box", x.holder(3, 1, 99, 0), 1);
        due("6 row", x.holder(3, 2, 4, 0), 1);
        ScriptTests y = story(2, "t");
        act(y, 0, 3, 0, 0);
        act(y, 1, 1, 0, 1);
        y.holder(0, 2, 4, Integer.MAX_VALUE - 2);
        run(y, "> b b b a");
        due("6 items go round", y.state(11), Integer.MIN_VALUE);
        y.holder(0, 2, 5, 0);
        y.run(0);
        due("6 refused changes nothing", y.state(11), Integer.MIN_VALUE);
        y.holder(0, 0, 0, 0);
        y.run(0);
        due("6 nothing again", y.told(6), 1);
    }

    private static void seeds() {
        ScriptTests x = story(1, "t");
        act(x, 0, 5, 0, 50);
        due("7 as made", x.seed(123), 7);
        due("7 as told", x.seed(-3), 123);
        run(x, "> a");
        due("7 a run begins by it", x.state(2), draw(-3));
        due("7 flag", x.state(4), drawn(draw(-3), 50));
        due("7 drawing leaves the story's", x.seed(5), -3);
        due("7 the latest run's stays", x.state(2), draw(-3));
        x.run(0);
        due("7 the next run", x.state(2), draw(5));
        due("7 bits 16 to 30", x.state(4), drawn(draw(5), 50));
    }

    private static int wrongAt(String lines) {
        int answer = script(new ScriptTests(0), lines);
        return answer <= -10 ? -10 - answer : NONE;
    }

    private static void scripts() {
        String[] right = {
            "", "\n", "\n\n\n", "> a", "> a\n", "> abcdef zz q", "= ", "=  ", "= \n", "= ]", "= [a]]",
            "= [[]", "= [\\]", "= [.*]", "= \\\\", "= \\]x", "= a~ !", "= **", "? 0 0", "? 7 -999999", "? 3 -0", "? 0 000001",
            "@ 0", "@ 7", "! 1", "! 9", "s 0", "s 3", "b 0", "b 3", "# ", "# \u0000\u00ff\t", "# #\n\n@ 1\n",
        };
        for (String lines : right) due("8 <" + lines + ">", wrongAt(lines), NONE);
        Object[][] places = {
            {"x", 0}, {" > a", 0}, {">", 1}, {">a", 1}, {">\n", 1}, {"> ", 2}, {"> \n", 2}, {"> A", 2}, {">  a", 2},
            {"> a ", 4}, {"> a \n", 4}, {"> a  b", 4}, {"> abcdefg", 8}, {"> a1", 3}, {"> a b\t", 5},
            {"=", 1}, {"=a", 1}, {"= a\t", 3}, {"= a\u007f", 3}, {"= []", 3}, {"= [", 3}, {"= [a", 4}, {"= [a\n]", 4},
            {"= [\u001f]", 3}, {"= \\", 3}, {"= \\\n", 3}, {"= \\\u0080", 3}, {"= [a\\]\\", 7},
            {"?", 1}, {"? ", 2}, {"? 8", 2}, {"? 0", 3}, {"? 01", 3}, {"? 0 ", 4}, {"? 0 -", 5}, {"? 0 --1", 5}, {"? 0 +1", 4},
            {"? 0 1x", 5}, {"? 0 1 ", 5}, {"? 0 1234567", 10}, {"? 0 -1234567", 11}, {"? 0 \n", 4},
            {"@ 8", 2}, {"@ ", 2}, {"@ 77", 3}, {"! 0", 2}, {"! 1 ", 3}, {"! :", 2}, {"s 4", 2}, {"s", 1}, {"s 00", 3}, {"b 4", 2},
            {"b -", 2}, {"#", 1}, {"#\n", 1}, {"#x", 1}, {"\n\n> a\n\nz", 7}, {"@ 1\u00ff", 3},
        };
        for (Object[] p : places) due("8 <" + p[0] + ">", wrongAt((String) p[0]), (Integer) p[1]);
        String forty = repeat("@ 1\n", 40);
        due("8 forty lines", wrongAt(forty), NONE);
        due("8 empty lines behind", wrongAt(forty + "\n\n\n"), NONE);
        due("8 the 41st", wrongAt(forty + "@ 1"), 160);
        due("8 a later one", wrongAt(forty + "\n\n@ 1"), 162);
        due("8 one that is wrong itself", wrongAt(forty + "zz"), 160);
        due("8 one wrong ahead of it", wrongAt("@ 9\n" + forty), 2);
        due("8 600 empty lines", wrongAt(repeat("\n", 600)), NONE);
        due("8 300 words", wrongAt("> " + repeat("a ", 298) + "a"), NONE);
        ScriptTests x = new ScriptTests(0);
        for (int i = 0; i < 9; i++) due("8 number", script(x, "@ 0"), i);
        due("8 wrong while there is room", script(x, "@ 8"), -12);
        due("8 the tenth", script(x, "@ 0"), 9);
        String[] refused = {"@ 0", "@ 8", "\0", "", "\n", "= [a", forty + "@ 1"};
        for (String lines : refused) {
            due("8 full <" + lines + ">", script(x, lines), FULL);
            due("8 full uses up", x.told(0), 0);
        }
        due("8 ten", x.told(4), 10);
        due("8 the tenth stays", x.run(9), 0);
    }

    private static void patterns() {
        String twenty = "abcdefghijklmnopqrst";
        String[] fits = {
            "abc", "abc", "abc", "...", "abc", "a*", "abc", "*c", "abc", "*", "", "*", "", "", "", "**", "abc", "*b*", "abc", "a*c*",
            "abc", "[xa][b]c", "a.c", "a\\.c", "a*c", "a\\*c", "[x]", "\\[x]", "]", "]", "-", "[a-z]", "^", "[^]", "\\", "[\\]",
            "\\", "\\\\", "?", "?", "aXbXc", "a*X*c", "aab", "*ab", "abab", "*ab", "  ", " .", twenty, "*", twenty, twenty,
            twenty, "*t", twenty, repeat(".", 20), "a]", "[a]]", ".", "[.]", "*", "[*]", "[", "[[]", "abc", repeat("*", 500),
        };
        for (int i = 0; i < fits.length; i += 2) {
            due("9 " + fits[i] + " is " + fits[i + 1], shownIs(fits[i], fits[i + 1]), 0);
        }
        String[] unlike = {
            "abc", "ab", "abc", "abcd", "abc", "....", "abc", "..", "", ".", "abc", "*d", "abc", "b*", "abc", "", "abc", "[b]bc",
            "b", "[a-z]", "x", "[.]", "axc", "a\\.c", "abbc", "a.c", "A", "a", "abc", "*b", "ab", "*a*a*", twenty, repeat(".", 21),
            twenty, repeat(".", 19), "a", "[\\]]", "", "[a]",
        };
        for (int i = 0; i < unlike.length; i += 2) {
            due("9 " + unlike[i] + " is not " + unlike[i + 1], shownIs(unlike[i], unlike[i + 1]), 1);
        }
    }

    private static int shownIs(String text, String pattern) {
        ScriptTests x = story(1, text);
        act(x, 0, 0, 0, 0);
        return run(x, "> a\n= " + pattern);
    }

    private static void runs() {
        ScriptTests x = story(3, "t", "u");
        x.rule(-1, 0, -1, 0, 1, 0, 1, 0, 3);
        x.rule(-1, 1, -1, 0, 6, 4, 0, 1, -1);
        x.rule(-1, 2, -1, 0, 2, 1, 2, 1, -1);
        due("9 unknown", x.run(0), UNKNOWN);
        due("9 no text yet", run(x, "= *\n> zz\n= \\?\n\n= x"), 2);
        due("9 first", x.failed(0, 0), 1);
        due("9 empty lines count", x.failed(1, 0), 5);
        due("9 no rule asked", x.shown(-1), 1);
        due("9 but said", x.told(7), 1);
        due("9 unknown", x.run(1), UNKNOWN);
        due("9 unknown below", x.run(-1), UNKNOWN);
        due("9 refused keeps what failed", x.told(5), 2);
        due("9 asked for", run(x, "@ 0\n@ 1\n? 0 0\n? 0 1\n! 4\n> a\n@ 3\n@ 0\n? 0 1\n# @ 9\n? 0 -1"), 5);
        int[] lines = {2, 4, 5, 8, 11};
        for (int i = 0; i < lines.length; i++) due("9 line", x.failed(i, 0), lines[i]);
        due("9 the end", run(x, "> b\n! 4\n! 3\n> a\n> zz\n= u\n@ 0"), 3);
        due("9 other end", x.failed(0, 0), 3);
        due("9 behind it", x.failed(1, 0), 4);
        due("9 an unknown word behind it", x.failed(2, 0), 5);
        due("9 no fault", x.failed(1, 1), 0);
        due("9 points", run(x, "s 1\n> a\ns 3\n> a b\n? 0 2\n! 4\nb 3\n? 0 1\n@ 3\n= t\n! 4\n> a\n? 0 2\nb 1\n= *\n@ 0\n? 0 0\nb 0"), 3);
        due("9 end is back", x.failed(0, 0), 11);
        due("9 text is back", x.failed(1, 0), 15);
        due("9 no such point", x.failed(2, 0), 18);
        due("9 no points of the run before", run(x, "b 1\nb 3"), 2);
        due("9 a point kept again", run(x, "s 0\n> a\ns 0\nb 0\n? 0 1"), 0);
        due("9 a fault", run(x, "@ 1\n> a\n> c a\n@ 1"), 2);
        due("9 its line", x.failed(1, 0), 3);
        due("9 its fault", x.failed(1, 1), 4);
        due("9 begun anew", x.run(5), 0);
        due("9 begun anew", x.state(4), 1);
        ScriptTests y = story(1, "t");
        act(y, 0, 5, 0, 100);
        int first = drawn(draw(7), 100);
        due("9 the seed is back", run(y, "s 0\n> a a a\nb 0\n> a\n? 0 " + first), 0);
        due("9 words known since", run(lateWord(), ""), 0);
    }

    private static ScriptTests lateWord() {
        ScriptTests x = new ScriptTests(0);
        script(x, "> go\n= Ok");
        due("9 not yet a word", x.run(0), 1);
        word(x, "go");
        text(x, "Ok");
        act(x, 0, 0, 0, 0);
        due("9 now it is", x.run(0), 0);
        return x;
    }

    private static void faileds() {
        ScriptTests x = new ScriptTests(0);
        due("10 none", x.failed(0, 0), UNKNOWN);
        run(x, "\n@ 1\nb 0");
        due("10 first", x.failed(0, 0), 2);
        due("10 second", x.failed(1, 0), 3);
        due("10 fault", x.failed(1, 1), 0);
        due("10 i", x.failed(2, 0), UNKNOWN);
        due("10 i below", x.failed(-1, 0), UNKNOWN);
        due("10 what", x.failed(0, 2), OUTSIDE);
        due("10 what below", x.failed(0, -1), OUTSIDE);
        due("10 unknown first", x.failed(2, 2), UNKNOWN);
        run(x, repeat("@ 1\n", 40));
        due("10 forty", x.told(5), 40);
        due("10 the last", x.failed(39, 0), 40);
        replay(x, "> a\n?");
        due("10 a replay is no run", x.told(5), 40);
    }

    private static int wrongTranscript(String lines) {
        int answer = replay(new ScriptTests(0), lines);
        return answer <= -10 ? -10 - answer : NONE;
    }

    private static void replays() {
        Object[][] places = {
            {"\n", 0}, {"Ok\n", 0}, {">", 1}, {">a\n", 1}, {"> ", 2}, {"> \n", 2}, {"> A\n?", 2}, {"> a b\n?", 3}, {"> abcdefg\n?", 8},
            {"> a", 3}, {"> a\n", 4}, {"> a\n?\n\n", 6}, {"> a\n?\n> b", 9}, {"> a\n?\n> b\n", 10}, {"> a\nx\u007f", 5}, {"> a\n\t", 4},
            {"> a\n?\nx", 6}, {"> a\nx\u00ffy\n", 5}, {"> a\r\n?", 3},
        };
        for (Object[] p : places) due("11 <" + p[0] + ">", wrongTranscript((String) p[0]), (Integer) p[1]);
        String[] right = {"", "> a\n?", "> a\n?\n", "> abcdef\n?\n> z\n?", "> a\n" + repeat("x", 300), "> a\n\n"};
        for (String lines : right) due("11 <" + lines + ">", wrongTranscript(lines), NONE);
        String forty = repeat("> a\n?\n", 20);
        due("11 forty", wrongTranscript(forty), NONE);
        due("11 the 41st", wrongTranscript(forty + "> a\n?"), 120);
        due("11 the 41st, empty", wrongTranscript(forty + "\n"), 120);
        due("11 wrong ahead of unlike", wrongTranscript("> a\nno\n> A\n?"), 9);

        due("11 the 40th unlike", replay(new ScriptTests(0), repeat("> a\n?\n", 19) + "> a\n."), 40);

        ScriptTests x = story(4, "Ok", "", "?", "!4");
        x.rule(0, 0, -1, 0, 1, 0, 1, 0, 1);
        x.rule(1, 0, -1, 0, 6, 2, 0, 1, -1);
        x.rule(-1, 1, -1, 0, 2, 1, 2, 1, -1);
        x.rule(-1, 2, -1, 0, 0, 0, 0, 2, -1);
        x.rule(-1, 3, -1, 0, 0, 0, 0, 3, -1);
        due("11 alike", replay(x, "> a\nOk\n> b\n!4\n> zz\n?\n> c\n?\n> d\n!4\n> a\n\n> b\n.\n> zz\n."), 0);
        due("11 behind the end not said", x.told(7), 6);
        due("11 the end", x.state(1), 2);
        due("11 fault told", x.told(6), 4);
        due("11 shown ?", x.shown(-1), 1);
        due("11 the text ?", x.shown(2), 1);
        due("11 shorter", replay(x, "> a\nO\n> a\n\n"), 2);
        due("11 it stops there", x.told(7), 7);
        due("11 as it was left", x.state(0), 1);
        due("11 longer", replay(x, "> a\nOk.\n"), 2);
        due("11 other sign", replay(x, "> zz\n?\n> a\nok"), 4);
        due("11 other fault", replay(x, "> b\n!3"), 2);
        due("11 a fault, longer", replay(x, "> b\n!4 "), 2);
        due("11 a fault, shorter", replay(x, "> b\n!"), 2);
        due("11 no fault", replay(x, "> a\n!4"), 2);
        due("11 not the end", replay(x, "> a\n."), 2);
        due("11 behind the end", replay(x, "> a\nOk\n> a\n\n> a\n?"), 6);
        due("11 behind the end, longer", replay(x, "> a\nOk\n> a\n\n> a\n.."), 6);
        due("11 ? is not shown", replay(x, "> zz\n"), -10 - 5);
        due("11 empty line for ?", replay(x, "> zz\n\n"), 2);
        due("11 uses up", x.told(0), 0);
        int said = x.told(7);
        due("11 wrong", replay(x, "> a\nOk\n> "), -10 - 9);
        due("11 wrong says nothing", x.told(7), said);
        due("11 wrong leaves the story", x.state(3), -1);
        due("11 nothing to replay", replay(x, ""), 0);
        due("11 begins anew", x.state(3), -2);
    }

    private static void storms() {
        ScriptTests none = new ScriptTests(1);
        due("12 no words", none.storm(1, 0), STATE);
        due("12 outside first", none.storm(1, 61), OUTSIDE);
        ScriptTests x = story(3, "t", "");
        due("12 n below", x.storm(1, -1), OUTSIDE);
        due("12 n over", x.storm(1, 61), OUTSIDE);
        due("12 none", x.storm(1, 0), 0);
        due("13 none", x.play(), 0);
        due("12 sixty", x.storm(1, 60), 0);
        due("13 sixty", x.play(), 60);
        int seed = 1;
        for (int i = 0; i < 60; i++) {
            seed = draw(seed);
            due("14 word " + i, x.played(i), drawn(seed, 3));
        }
        due("14 beyond", x.played(60), UNKNOWN);
        due("14 below", x.played(-1), UNKNOWN);
        due("12 seen", x.shown(-1), 60);
        due("15 none broke", x.shrink(), STATE);
        x.storm(1, -1);
        due("12 refused leaves the play", x.play(), 60);

        due("12 rule 1", stormOf(1, 2, 0, 1, 0), 1);
        due("12 rule 2", stormOf(1, 0, 0, 0, 1), 2);
        due("12 rule 3", stormOf(1, 1, 0, -1, 0), 3);
        due("12 rule 2 before 3", stormOf(1, 1, 0, -1, 1), 2);
        due("12 a fault shows no text", stormOf(1, 2, 0, 1, 1), 1);
        due("12 the end breaks none", stormOf(1, 6, 1, 0, 0), 0);
        due("12 the end with an empty text", stormOf(1, 6, 1, 0, 1), 2);
        due("12 of no words", stormOf(0, 2, 0, 1, 0), 0);
        ScriptTests y = story(1, "t");
        act(y, 0, 6, 3, 0);
        due("12 till the end", y.storm(9, 20), 0);
        due("13 till the end", y.play(), 1);
        due("12 said", y.told(7), 1);
        due("15 the end is no break", y.shrink(), STATE);
    }

    private static int stormOf(int n, int act, int a, int b, int text) {
        ScriptTests x = story(1, "t", "");
        x.rule(-1, 0, -1, 0, act, a, b, text, -1);
        return x.storm(4, n);
    }

    private static void shrinks() {
        due("15 no storm", story(1, "t").shrink(), STATE);
        // a counts up, b breaks at two or more, c does nothing
        ScriptTests x = story(3, "t", "");
        x.rule(-1, 0, -1, 0, 1, 0, 1, 0, -1);
        x.rule(-1, 1, 0, 2, 0, 0, 0, 1, -1);
        x.rule(-1, 2, -1, 0, 0, 0, 0, 0, -1);
        int seed = 0;
        while (x.storm(seed, 60) != 2 || x.play() < 6) seed++;
        int last = x.play();
        int said = x.told(7), done = x.done(0), asked = x.shown(-1);
        int[] left = {x.state(0), x.state(4), x.state(3)};
        due("15 shrunk", x.shrink(), 3);
        due("15 a", x.played(0), 0);
        due("15 a", x.played(1), 0);
        due("15 b", x.played(2), 1);
        due("15 beyond", x.played(3), UNKNOWN);
        due("13 as shrunk", x.play(), 3);
        due("15 not seen", x.told(7), said);
        due("15 not seen", x.done(0), done);
        due("15 not seen", x.shown(-1), asked);
        due("15 state", x.state(0), left[0]);
        due("15 state", x.state(4), left[1]);
        due("15 state", x.state(3), left[2]);
        due("15 again", x.shrink(), 3);
        due("15 was longer", last > 3 ? 1 : 0, 1);
        sameRuleOnly();
        notBefore();
        firstGoes();
        lastMayGo();
        behindTheEnd();
    }

    /** Drawn words of a storm over so many words: a seed x whose storm begins with these. */
    private static int seedFor(int words, int... want) {
        for (int x = 0; x < 4000000; x++) {
            int seed = x, i = 0;
            while (i < want.length) {
                seed = draw(seed);
                if (drawn(seed, words) != want[i]) break;
                i++;
            }
            if (i == want.length) return x;
        }
        throw new IllegalStateException("no such seed");
    }

    private static void sameRuleOnly() {
        // b shows an empty text once a was said; else its flag falls below 0: another rule
        ScriptTests x = story(2, "t", "");
        x.rule(-1, 0, -1, 0, 1, 0, 1, 0, -1);
        x.rule(-1, 1, 0, 1, 0, 0, 0, 1, -1);
        x.rule(-1, 1, -1, 0, 1, 1, -1, 0, -1);
        due("15 rule 2", x.storm(seedFor(2, 0, 0, 1), 9), 2);
        due("15 one a stays", x.shrink(), 2);
        due("15 a", x.played(0), 0);
    }

    private static void notBefore() {
        // c faults at once if a has not been said; behind a it leads to room 1, where b faults
        ScriptTests x = story(3, "t");
        x.rule(0, 2, 0, 1, 0, 0, 0, 0, 1);
        x.rule(0, 2, -1, 0, 2, 1, 1, 0, -1);
        x.rule(-1, 0, -1, 0, 1, 0, 1, 0, -1);
        x.rule(1, 1, -1, 0, 2, 1, 1, 0, -1);
        due("15 rule 1", x.storm(seedFor(3, 0, 2, 1), 9), 1);
        due("15 three", x.play(), 3);
        due("15 the fault before the last does not count, c b goes on to c", x.shrink(), 3);
    }

    private static void firstGoes() {
        // a or b opens for c: the first of the two goes
        ScriptTests x = story(3, "t", "");
        x.rule(-1, 0, -1, 0, 1, 0, 1, 0, -1);
        x.rule(-1, 1, -1, 0, 1, 0, 1, 0, -1);
        x.rule(-1, 2, 0, 1, 0, 0, 0, 1, -1);
        due("15 rule 2", x.storm(seedFor(3, 0, 1, 2), 9), 2);
        due("15 two", x.shrink(), 2);
        due("15 b is left", x.played(0), 1);
        x.storm(seedFor(3, 1, 0, 2), 9);
        x.shrink();
        due("15 a is left", x.played(0), 0);
    }

    private static void lastMayGo() {
        // behind the storm a holder loses its row: now a alone faults, and b too
        ScriptTests x = story(2, "t");
        x.rule(-1, 0, -1, 0, 3, 0, 0, 0, -1);
        x.rule(-1, 1, -1, 0, 2, 0, 0, 0, -1);
        x.holder(0, 2, 1, 3);
        due("15 rule 1", x.storm(seedFor(2, 0, 1), 9), 1);
        due("15 two", x.play(), 2);
        x.holder(0, 0, 0, 0);
        due("15 the story as it is now", x.shrink(), 1);
        due("15 the first such went", x.played(0), 1);
        ScriptTests y = story(2, "t");
        y.rule(-1, 0, -1, 0, 3, 0, 0, 0, -1);
        y.rule(-1, 1, -1, 0, 1, 1, -1, 0, -1);
        y.holder(0, 2, 1, 3);
        due("15 rule 3", y.storm(seedFor(2, 0, 1), 9), 3);
        y.holder(0, 0, 0, 0);
        due("15 a went, though the whole play no more breaks it", y.shrink(), 1);
        // b faults only behind a; then a faults itself, so that b, the last, is the one that can go
        ScriptTests z = story(2, "t");
        z.rule(0, 0, -1, 0, 4, 0, 0, 0, 1);
        z.rule(1, 1, -1, 0, 2, 0, 0, 0, -1);
        z.holder(0, 1, 0, 3);
        due("15 rule 1", z.storm(seedFor(2, 0, 1), 9), 1);
        z.holder(0, 0, 0, 0);
        due("15 the last went", z.shrink(), 1);
        due("15 a is left", z.played(0), 0);
    }

    private static void behindTheEnd() {
        // b is THE END if a was not said, else it leads to where c breaks
        ScriptTests x = story(3, "t", "");
        x.rule(-1, 0, -1, 0, 1, 0, 1, 0, -1);
        x.rule(-1, 1, 0, 1, 0, 0, 0, 0, 1);
        x.rule(-1, 1, -1, 0, 6, 1, 0, 0, -1);
        x.rule(1, 2, -1, 0, 0, 0, 0, 1, -1);
        due("15 rule 2", x.storm(seedFor(3, 0, 1, 2), 9), 2);
        due("15 nothing breaks behind the end", x.shrink(), 3);
    }

    private static void states() {
        ScriptTests x = story(1, "t");
        x.rule(-1, 0, -1, 0, 1, 7, -9, 0, 5);
        due("16 below", x.state(-1), OUTSIDE);
        due("16 over", x.state(12), OUTSIDE);
        run(x, "> a");
        due("16 room", x.state(0), 5);
        due("16 text", x.state(3), 0);
        due("16 flag 7", x.state(11), -9);
        due("16 flag 6", x.state(10), 0);
        x.storm(1, 2);
        due("16 a storm", x.state(11), -9);
        replay(x, "> a\nt\n> a\nt\n> zz\n?");
        due("16 a replay", x.state(11), -18);
        due("16 its text", x.state(3), -1);
        script(x, "> A");
        x.run(7);
        x.storm(1, 99);
        due("16 refusals leave it", x.state(11), -18);
        x.storm(1, 0);
        due("16 a storm of none begins anew", x.state(11), 0);
    }

    private static void seen() {
        ScriptTests x = story(3, "t", "u");
        due("20 none", shares(x), -99);
        x.rule(-1, 0, -1, 0, 0, 0, 0, 0, -1);
        x.rule(-1, 1, -1, 0, 0, 0, 0, 1, -1);
        x.rule(3, 0, -1, 0, 0, 0, 0, 1, -1);
        due("17 beyond", x.done(3), UNKNOWN);
        due("17 below", x.done(-1), UNKNOWN);
        due("18 beyond", x.shown(2), UNKNOWN);
        due("18 below", x.shown(-2), UNKNOWN);
        due("19 all", x.never(2), 2);
        due("20 none done", shares(x), -99);
        run(x, "> c zz");
        due("20 ? is no rule", shares(x), -99);
        run(x, "> a a a c\n> b b");
        due("17 first", x.done(0), 3);
        due("17 second", x.done(1), 2);
        due("17 third", x.done(2), 0);
        due("18 t", x.shown(0), 3);
        due("18 u", x.shown(1), 2);
        due("18 ?", x.shown(-1), 3);
        due("19 first", x.never(0), 2);
        due("19 no more", x.never(1), NONE);
        due("19 below", x.never(-1), NONE);
        due("19 far", x.never(Integer.MAX_VALUE), NONE);
        due("19 far below", x.never(Integer.MIN_VALUE), NONE);
        due("20 cut", shares(x), 2);
        due("21 said", x.told(7), 8);
        replay(x, "> a\nt\n> b\nu");
        due("17 by a replay", x.done(0) + x.done(1), 7);
        x.storm(3, 10);
        due("17 by a storm", x.done(0) + x.done(1) + x.shown(-1), 7 + 3 + 10);
        due("21 said in all", x.told(7), 20);
    }

    private static void allThirty() {
        ScriptTests x = story(15, "t");
        for (int i = 0; i < 30; i++) x.rule(i % 2, i / 2, -1, 0, 0, 0, 0, 0, 1 - i % 2);
        run(x, "> a a b b c c d d e e f f g g h h i i j j k k l l m m n n o o o o");
        due("17 the last", x.done(29), 2);
        due("19 none is left", x.never(0), NONE);
        due("20 of thirty", shares(x), 1);
    }

    private static int shares(ScriptTests x) {
        try {
            return x.share();
        } catch (ArithmeticException e) {
            return -99;
        }
    }

    private static void tolds() {
        ScriptTests x = story(2, "t", "u", "v");
        act(x, 0, 4, 0, 0);
        act(x, 1, 2, 0, 0);
        due("21 below", x.told(-1), OUTSIDE);
        due("21 over", x.told(8), OUTSIDE);
        run(x, "> zz\n@ 1\n> a");
        feed(x, "abc");
        int[] want = {3, 2, 3, 2, 1, 2, 1, 2};
        for (int what = 0; what < want.length; what++) due("21 told " + what, x.told(what), want[what]);
        x.text();
        run(x, "> b\n@ 1");
        due("21 the latest fault", x.told(6), 4);
        run(x, "@ 0");
        due("21 none failed", x.told(5), 0);
        due("21 still the latest", x.told(6), 4);
        replay(x, "> a\n!1");
        due("21 of a replay", x.told(6), 1);
        x.storm(seedFor(2, 1), 5);
        due("21 of a storm", x.told(6), 4);
        due("21 a faulty word was said", x.told(7), 5);
    }

    public static void main(String[] args) {
        newObject();
        feeding();
        words();
        texts();
        rules();
        whichRule();
        acts();
        aFaultLeavesTheStory();
        holders();
        seeds();
        scripts();
        patterns();
        runs();
        faileds();
        replays();
        storms();
        shrinks();
        states();
        seen();
        allThirty();
        tolds();
        System.out.println(wrong == 0 ? "all promises hold" : wrong + " answers are not as due");
        if (wrong != 0) System.exit(1);
    }
}
