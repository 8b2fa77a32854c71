/** The boundary cases that the document names of SCRIPTS, RUNS and TRANSCRIPTS: promises 8 to 11. */
public final class ScriptEdgesTest extends Telling {
    /** A LINE of each kind that is as short as can be. */
    private static final String[] SHORTEST = {"> a", "= ", "? 0 0", "@ 0", "! 1", "s 0", "b 0", "# "};
    private static final String FORTY_LINES = "@ 1\n".repeat(40);
    private static final String FORTY_OF_A_TRANSCRIPT = "> a\n?\n".repeat(20);

    public static void main(String[] args) {
        testAll(ScriptEdgesTest.class);
    }

    private static String sign(int value) {
        return String.valueOf((char) value);
    }

    /** All bytes at the end of the first LINE: those from one to another may stand, a byte 10 ends the LINE, others are WRONG. */
    private static void onlyStand(String ahead, int from, int to, String behind) {
        for (int value = 0; value < 256; value++) {
            boolean right = value >= from && value <= to;
            due("<" + ahead + "> and byte " + value, wrongAt(ahead + sign(value) + behind), right ? NONE : ahead.length());
        }
    }

    /** Behind these bytes the LINE must end: by a byte 10, or by the end. */
    private static void mustEnd(String line) {
        due("<" + line + "> and the end", wrongAt(line), NONE);
        onlyStand(line, 10, 10, "");
    }

    /** Behind these bytes the LINE cannot end. */
    private static void cannotEnd(String line) {
        due("<" + line + "> and the end", wrongAt(line), line.length());
        due("<" + line + "> and a byte 10", wrongAt(line + "\n"), line.length());
        due("<" + line + "> and a byte 10, and more", wrongAt(line + "\n# x\n"), line.length());
    }

    // ---- 8 script: how many, how long

    @Promise(number = 8, says = "SCRIPTS, numbered from 0, 10 at most")
    static void tenScripts() {
        ScriptTests x = new ScriptTests(0);
        for (int i = 0; i < 10; i++) due("SCRIPT " + i, script(x, "@ 1\n".repeat(i)), i);
        due("one more", script(x, "@ 1"), FULL);
        due("one more, of no bytes", x.script(), FULL);
        due("SCRIPTS", x.told(4), 10);
        for (int i = 0; i < 10; i++) due("its own LINES", x.run(i), i);
        due("no such SCRIPT", x.run(10), UNKNOWN);
    }

    @Promise(number = 8, says = "FULL.")
    static void fullBeforeWrong() {
        ScriptTests x = new ScriptTests(0);
        for (int i = 0; i < 9; i++) x.script();
        due("nine are there", script(x, "@ 8"), -12);
        x.script();
        for (String lines : new String[] {"x", "@ 8", "\0", "= [", FORTY_LINES + "@ 1"}) due("<" + lines + ">", script(x, lines), FULL);
    }

    @Promise(number = 8, says = "They change nothing, but that what reads THE TAPE uses it up.")
    static void scriptUsesUp() {
        ScriptTests x = story(1, "t");
        failing(x, "@ 1\n> a");
        String told = toldOf(x), state = stateOf(x);
        due("WRONG", script(x, "@ 8"), -12);
        due("THE TAPE", x.told(0), 0);
        due("told", toldOf(x), told);
        for (int i = 1; i < 10; i++) x.script();
        told = toldOf(x);
        due("FULL", script(x, "@ 0"), FULL);
        due("THE TAPE", x.told(0), 0);
        due("told", toldOf(x), told);
        due("state", stateOf(x), state);
        due("the last SCRIPT", x.run(9), 0);
    }

    @Promise(number = 8, says = "-10 less the place that is WRONG")
    static void placesThatAreWrong() {
        due("the first", script(new ScriptTests(0), "x"), -10);
        due("the second", script(new ScriptTests(0), "@"), -11);
        due("the last of 600", script(new ScriptTests(0), "# " + "x".repeat(594) + "\n@ 8"), -10 - 599);
        due("the end of 600", script(new ScriptTests(0), "# " + "x".repeat(594) + "\n= \\"), -10 - 600);
    }

    @Promise(number = 8, says = "are read from THE TAPE (600 bytes)")
    static void scriptOfSixHundredBytes() {
        due("the last LINE is kept", failing(new ScriptTests(0), "# " + "x".repeat(594) + "\n@ 1"), "2");
        ScriptTests x = story(1, "t");
        act(x, 0, 1, 0, 1);
        due("300 WORDS", failing(x, "> " + "a ".repeat(298) + "a"), "");
        due("FLAG 0", x.state(4), 299);
        due("no bytes", failing(new ScriptTests(0), ""), "");
        due("600 LINES without bytes", failing(new ScriptTests(0), "\n".repeat(600)), "");
    }

    @Promise(number = 8, says = "of up to 40 LINES")
    static void fortyLines() {
        due("40 LINES", wrongAt(FORTY_LINES), NONE);
        due("the last by the end", wrongAt(FORTY_LINES.substring(0, 159)), NONE);
        ScriptTests x = new ScriptTests(0);
        failing(x, FORTY_LINES);
        due("all of them", x.told(5), 40);
        due("the last", x.failed(39, 0), 40);
    }

    @Promise(number = 8, says = "or a LINE (its first byte) behind the 40th that has bytes")
    static void behindTheFortieth() {
        for (String line : SHORTEST) due("<" + line + ">", wrongAt(FORTY_LINES + line), 160);
        due("one that is WRONG itself", wrongAt(FORTY_LINES + "@ 8"), 160);
        due("one that is WRONG itself at once", wrongAt(FORTY_LINES + "x"), 160);
        due("a LINE that is WRONG ahead of it", wrongAt("@ 1\n".repeat(39) + "@ 8\n@ 1"), 158);
        due("only a byte 10", wrongAt(FORTY_LINES + "\n"), NONE);
        due("many a byte 10", wrongAt(FORTY_LINES + "\n".repeat(440)), NONE);
        due("a LINE behind those", wrongAt(FORTY_LINES + "\n\n# "), 162);
    }

    @Promise(number = 8, says = "LINES without any counted.")
    static void emptyLinesCount() {
        due("the 40th", wrongAt("\n".repeat(39) + "@ 1"), NONE);
        due("the 41st", wrongAt("\n".repeat(40) + "@ 1"), 40);
        due("the 40th of both", wrongAt("\n@ 1\n".repeat(19) + "\n@ 1"), NONE);
        due("the 41st of both", wrongAt("\n@ 1\n".repeat(20) + "@ 1"), 100);
        due("the 600th", wrongAt("\n".repeat(599) + "#"), 599);
    }

    @Promise(number = 8, says = "each LINE ends by a byte 10 (the last one also by the end)")
    static void endsOfLines() {
        for (String line : SHORTEST) {
            due("<" + line + "> and the end", wrongAt(line), NONE);
            due("<" + line + "> and a byte 10", wrongAt(line + "\n"), NONE);
            due("<" + line + "> and another LINE", wrongAt(line + "\n@ 8"), line.length() + 3);
        }
        due("a byte 13 is no end", wrongAt("@ 1\r\n"), 3);
        due("the same LINES", failing(new ScriptTests(0), "@ 1\n@ 0\n@ 2"), "1 3");
        due("the same LINES", failing(new ScriptTests(0), "@ 1\n@ 0\n@ 2\n"), "1 3");
    }

    @Promise(number = 8, says = "a LINE without bytes is passed over, but counts as a number")
    static void linesWithoutBytes() {
        due("ahead, between, behind", failing(new ScriptTests(0), "\n\n@ 1\n\n@ 0\n@ 2\n\n\n@ 3\n\n"), "3 6 9");
        due("a blank is a byte", wrongAt("\n \n"), 1);
    }

    // ---- 8 script: what may stand

    @Promise(number = 8, says = "WRONG: the first byte that cannot stand")
    static void kindsOfLines() {
        String kinds = ">=?@!sb#";
        for (int value = 0; value < 256; value++) {
            if (value == 10) continue;
            boolean right = kinds.indexOf(value) >= 0;
            due("byte " + value, wrongAt(sign(value)), right ? 1 : 0);
            due("byte " + value + " and a byte 10", wrongAt(sign(value) + "\n"), right ? 1 : 0);
            due("byte " + value + " behind a LINE", wrongAt("@ 1\n" + sign(value)), right ? 5 : 4);
        }
        for (String line : SHORTEST) onlyStand(line.substring(0, 1), ' ', ' ', line.substring(2));
        due("the first of two", wrongAt("@ 9\n! 0\n"), 2);
    }

    @Promise(number = 8, says = "\"> \" and WORDS with one blank between")
    static void wordsWithOneBlank() {
        cannotEnd("> ");
        cannotEnd("> a ");
        cannotEnd("> a b ");
        onlyStand("> ", 'a', 'z', "");
        onlyStand("> a ", 'a', 'z', "");
        onlyStand("> abcdef ", 'a', 'z', " x");
        due("two blanks", wrongAt("> a  b"), 4);
        for (int n = 1; n <= 6; n++) due(n + " letters", wrongAt("> " + "z".repeat(n) + " " + "z".repeat(n)), NONE);
        due("seven letters", wrongAt("> abcdefg"), 8);
        due("seven letters of the second", wrongAt("> ab abcdefg"), 11);
        for (int value = 0; value < 256; value++) {
            boolean right = value >= 'a' && value <= 'z' || value == 10;
            int due = value == ' ' ? 4 : right ? NONE : 3;
            due("a and byte " + value, wrongAt("> a" + sign(value)), due);
            int behindSix = value == ' ' ? 9 : value == 10 ? NONE : 8;
            due("six letters and byte " + value, wrongAt("> abcdef" + sign(value)), behindSix);
        }
    }

    @Promise(number = 8, says = "\"? \" a FLAG (a digit 0 to 7), a blank, a NUMBER")
    static void flagBlankNumber() {
        cannotEnd("? ");
        cannotEnd("? 0");
        cannotEnd("? 7 ");
        onlyStand("? ", '0', '7', " 1");
        onlyStand("? 3", ' ', ' ', "1");
    }

    @Promise(number = 8, says = "A NUMBER: perhaps -, 1 to 6 digits.")
    static void oneToSixDigits() {
        cannotEnd("? 0 -");
        for (int n = 1; n <= 6; n++) {
            due(n + " digits", wrongAt("? 0 " + "9".repeat(n)), NONE);
            due("- and " + n + " digits", wrongAt("? 0 -" + "0".repeat(n)), NONE);
        }
        for (int value = 0; value < 256; value++) {
            boolean digit = value >= '0' && value <= '9';
            due("byte " + value, wrongAt("? 0 " + sign(value)), value == '-' ? 5 : digit ? NONE : 4);
            due("- and byte " + value, wrongAt("? 0 -" + sign(value)), digit ? NONE : 5);
            due("a digit and byte " + value, wrongAt("? 0 1" + sign(value)), digit || value == 10 ? NONE : 5);
        }
    }

    @Promise(number = 8, says = "(of a NUMBER the seventh digit")
    static void theSeventhDigit() {
        mustEnd("? 0 123456");
        mustEnd("? 0 -123456");
        due("seven", wrongAt("? 0 1234567"), 10);
        due("- and seven", wrongAt("? 0 -1234567"), 11);
        due("seven of 0", wrongAt("? 0 0000000"), 10);
        due("eight", wrongAt("? 0 12345678"), 10);
    }

    @Promise(number = 8, says = "\"@ \" a digit 0 to 7")
    static void digitOfARoom() {
        cannotEnd("@ ");
        onlyStand("@ ", '0', '7', "");
        mustEnd("@ 0");
        mustEnd("@ 7");
    }

    @Promise(number = 8, says = "\"! \" a digit 1 to 9")
    static void digitOfAnEnd() {
        cannotEnd("! ");
        onlyStand("! ", '1', '9', "");
        mustEnd("! 1");
        mustEnd("! 9");
    }

    @Promise(number = 8, says = "\"s \" a digit 0 to 3")
    static void digitOfAPointThatIsKept() {
        cannotEnd("s ");
        onlyStand("s ", '0', '3', "");
        mustEnd("s 0");
        mustEnd("s 3");
    }

    @Promise(number = 8, says = "\"b \" a digit 0 to 3")
    static void digitOfAPointThatWasKept() {
        cannotEnd("b ");
        onlyStand("b ", '0', '3', "");
        mustEnd("b 0");
        mustEnd("b 3");
    }

    @Promise(number = 8, says = "\"# \" and anything: nothing.")
    static void anything() {
        onlyStand("# ", 0, 255, "");
        onlyStand("# x", 0, 255, "");
        due("nothing", failing(new ScriptTests(0), "# @ 1\n#  \0\u00ff\n# \n"), "");
    }

    @Promise(number = 8, says = "A PATTERN: signs")
    static void signsOfAPattern() {
        for (int value = 0; value < 256; value++) {
            boolean open = value == '[' || value == '\\';
            boolean right = value >= 32 && value <= 126 || value == 10;
            due("byte " + value, wrongAt("= " + sign(value)), open ? 3 : right ? NONE : 2);
            due("x and byte " + value, wrongAt("= x" + sign(value)), open ? 4 : right ? NONE : 3);
        }
        due("none", wrongAt("= "), NONE);
        due("none, and a byte 10", wrongAt("= \n"), NONE);
        due("as many as THE TAPE has", wrongAt("= " + "*".repeat(598)), NONE);
    }

    @Promise(number = 8, says = "[ and signs (1 or more, none of them ]) and ]: one of them")
    static void signsBetweenBrackets() {
        for (int value = 0; value < 256; value++) {
            boolean right = value >= 32 && value <= 126 && value != ']';
            due("byte " + value, wrongAt("= [" + sign(value) + "]"), right ? NONE : 3);
            boolean also = right || value == ']';
            due("x and byte " + value, wrongAt("= [x" + sign(value) + "]"), also ? NONE : 4);
        }
        due("no sign", wrongAt("= []"), 3);
        due("no sign, and more", wrongAt("= []]"), 3);
        due("no sign, later", wrongAt("= a[b][]"), 7);
        due("as many as THE TAPE has", wrongAt("= [" + "a".repeat(596) + "]"), NONE);
    }

    @Promise(number = 8, says = "\\ and a sign: that sign")
    static void signBehindABackslash() {
        onlyStand("= \\", 32, 126, "");
        onlyStand("= x\\\\\\", 32, 126, "x");
    }

    @Promise(number = 8, says = "a ] that has no [ stands for itself")
    static void closingBracketAlone() {
        for (String pattern : new String[] {"]", "]]", "a]", "[a]]", "\\[]", "\\[a]"}) due(pattern, wrongAt("= " + pattern), NONE);
        due("]", patternOf("]", "]"), "");
        due("[a]]", patternOf("a]", "[a]]"), "");
        due("\\[a]", patternOf("[a]", "\\[a]"), "");
        due("another sign", patternOf("a", "]"), "2");
    }

    @Promise(number = 8, says = "[ without ] and \\ at the end: there the 10 cannot stand, nor the end")
    static void openAtTheEnd() {
        cannotEnd("= [");
        cannotEnd("= [a");
        cannotEnd("= [a[");
        cannotEnd("= [a\\");
        cannotEnd("= a[b][c");
        cannotEnd("= \\");
        cannotEnd("= a\\");
        cannotEnd("= \\\\\\");
        cannotEnd("= [a]\\");
        due("] of the next LINE", wrongAt("= [a\n]"), 4);
        due("\\ between brackets is a sign of them", wrongAt("= [\\]"), NONE);
        due("\\ that has its sign", wrongAt("= \\\\"), NONE);
        due("[ that is a sign", wrongAt("= \\["), NONE);
        due("[ between brackets", wrongAt("= [[]"), NONE);
    }

    // ---- 9 run: a RUN

    @Promise(number = 9, says = "A RUN: how many LINES FAILED. UNKNOWN.")
    static void unknownScripts() {
        ScriptTests x = new ScriptTests(0);
        due("there are none", x.run(0), UNKNOWN);
        failing(x, "@ 1");
        script(x, "@ 0");
        for (int script : new int[] {-1, 2, 10, MIN, MAX}) due("SCRIPT " + script, x.run(script), UNKNOWN);
        due("the refused ones leave what FAILED", x.told(5), 1);
        due("the first", x.run(0), 1);
        due("the last", x.run(1), 0);
    }

    @Promise(number = 9, says = "A RUN of a SCRIPT begins the STORY anew, by its SEED, no POINTS.")
    static void begunAnew() {
        ScriptTests x = story(2, "t");
        x.rule(-1, 0, -1, 0, 5, 2, 100, 0, 6);
        act(x, 1, 6, 4, 0);
        due("all is left as it is", failing(x, "b 0\nb 3\n@ 0\n? 2 0\n= *\n> a\n? 2 38\ns 0\ns 3\n> b\n! 4"), "1 2 5");
        due("and so it is again", failingAgain(x, 0), "1 2 5");
        due("state", stateOf(x), "6 4 1103527590 0 0 0 38 0 0 0 0 0");
        x.storm(1, 60);
        due("behind a STORM", failingAgain(x, 0), "1 2 5");
        replay(x, "> a\nt\n> b\nt");
        due("behind a replay", failingAgain(x, 0), "1 2 5");
        script(x, "");
        x.run(1);
        due("of no LINES", stateOf(x), "0 0 1 -2 0 0 0 0 0 0 0 0");
    }

    @Promise(number = 9, says = "Each LINE that does not come out FAILS (told by its number, from 1, "
        + "the bytes' LINES without any counted, too), and it goes on")
    static void itGoesOn() {
        ScriptTests x = story(1, "t");
        act(x, 0, 1, 0, 1);
        due("each kind", failing(x, "= t\n\n? 0 1\n@ 1\n! 1\nb 0\n# x\n> a\n? 0 1\n= u\n\n= t"), "1 3 4 5 6 10");
        due("the first and the last", failing(new ScriptTests(0), "@ 1\n" + "\n".repeat(38) + "@ 1"), "1 40");
    }

    @Promise(number = 9, says = "each is SAID, in order")
    static void saidInOrder() {
        ScriptTests x = story(3, "t");
        x.rule(0, 0, -1, 0, 0, 0, 0, 0, 1);
        x.rule(1, 1, -1, 0, 0, 0, 0, 0, 2);
        x.rule(2, 2, -1, 0, 0, 0, 0, 0, 3);
        due("a b c", failing(x, "> a b c\n@ 3"), "");
        due("c b a", failing(x, "> c b a\n@ 1"), "");
        due("SAID", x.told(7), 6);
    }

    @Promise(number = 9, says = "of one that is none of the STORY's the TEXT -1 is SHOWN, and no RULE asked")
    static void wordsThatAreNone() {
        ScriptTests x = new ScriptTests(0);
        due("no WORDS at all", failing(x, "> go\n= \\?"), "");
        due("SHOWN", x.shown(-1), 1);
        due("SAID", x.told(7), 1);
        ScriptTests y = story(1, "t");
        shows(y, 0, 0);
        due("not a, but as it begins", failing(y, "> aa\n= \\?\n> b a\n= t\n> a b\n= \\?"), "");
        due("DONE", y.done(0), 2);
        due("SHOWN", y.shown(-1), 3);
    }

    @Promise(number = 9, says = "the TEXT that was SHOWN latest (none: FAILS) must be so")
    static void noneWasShown() {
        ScriptTests x = story(1, "");
        shows(x, 0, 0);
        due("nothing is SHOWN yet", failing(x, "= \n= *\n= .\n= \\?\n> a\n= \n= *"), "1 2 3 4");
        due("the latest", failing(x, "> a zz\n= \n= \\?"), "2");
        ScriptTests y = story(1, "t");
        act(y, 0, 4, 0, 0);
        due("a FAULT shows none", failing(y, "> a\n= *"), "1!1");
        due("as it was", y.state(3), -2);
    }

    /** "2" if the PATTERN is not the whole TEXT, "" if it is. */
    private static String patternOf(String text, String pattern) {
        ScriptTests x = story(1, text);
        shows(x, 0, 0);
        return failing(x, "> a\n= " + pattern);
    }

    private static void fit(String text, String... patterns) {
        for (String p : patterns) due("<" + text + "> is <" + p + ">", patternOf(text, p), "");
    }

    private static void doNotFit(String text, String... patterns) {
        for (String p : patterns) due("<" + text + "> is <" + p + ">", patternOf(text, p), "2");
    }

    @Promise(number = 9, says = "It must be the whole TEXT.")
    static void theWholeText() {
        fit("", "");
        fit("abc", "abc");
        doNotFit("", "a", ".", "[a]", "\\a", " ", "?");
        doNotFit("abc", "", "ab", "bc", "b", "abcd", " abc", "abc ", "Abc");
        String twenty = "abcdefghijklmnopqrst";
        fit(twenty, twenty, ".".repeat(20), "*", "*t", "a*", "a*t", ".*.".repeat(10), "[a]" + ".".repeat(19));
        doNotFit(twenty, ".".repeat(19), ".".repeat(21), twenty + "u", twenty + ".", twenty.substring(1), "*s", "b*");
    }

    @Promise(number = 9, says = "a letter, a digit, a blank and others stand for themselves")
    static void standForThemselves() {
        for (int value = 32; value <= 126; value++) {
            String s = sign(value);
            boolean special = ".*[\\".indexOf(value) >= 0;
            if (!special) fit(s, s);
            if (!special) doNotFit(value == 'x' ? "y" : "x", s);
            if (!special) doNotFit(s, s + s);
        }
        doNotFit("a", "A");
        fit("?", "?");
        fit("a b", "a b");
        fit("^a-b$", "^a-b$");
        fit("(a|b)+{2}", "(a|b)+{2}");
    }

    @Promise(number = 9, says = ". any sign")
    static void anySign() {
        for (int value = 32; value <= 126; value++) fit(sign(value), ".");
        doNotFit("", ".");
        doNotFit("ab", ".");
        doNotFit("a", "..");
        fit("ab", "..");
    }

    @Promise(number = 9, says = "* any row of signs")
    static void anyRowOfSigns() {
        fit("", "*", "**", "*".repeat(590));
        fit("abc", "*", "abc*", "*abc", "a*bc", "a*c", "*b*", "***", "*a*b*c*", "*c", "a*", "*.", ".*", "*...", "*.*.*.*");
        doNotFit("abc", "*d", "d*", "*b", "b*", "*a*a*", "*....", "*c*b*", "*.*.*.*.*");
        fit("aab", "*ab", "a*b", "*aab");
        fit("abab", "*ab", "ab*ab", "*ab*ab*");
        doNotFit("aba", "*ab", "ab*ab");
        fit("aaaaaaaaaaaaaaaaaaab", "*a*a*a*a*a*a*a*a*a*b");
        doNotFit("aaaaaaaaaaaaaaaaaaaa", "*a*a*a*a*a*a*a*a*a*b");
        fit("*", "*", "\\*", "[*]");
    }

    @Promise(number = 9, says = "one of them")
    static void oneOfThem() {
        fit("a", "[a]", "[ab]", "[ba]", "[aa]", "[xyza]");
        doNotFit("a", "[b]", "[A]", "[ab][ab]", "[ ]");
        doNotFit("", "[a]");
        doNotFit("ab", "[ab]");
        fit("ab", "[ab][ab]", "[a]b", "a[b]");
        for (String s : new String[] {".", "*", "[", "\\", "-", "^", "?", " "}) fit(s, "[" + s + "]", "[x" + s + "]", "[" + s + "x]");
        doNotFit("b", "[.]", "[*]", "[a-c]", "[^a]", "[\\x]");
        doNotFit("[", "[a]");
        doNotFit("]", "[a]");
        doNotFit("xx", "x[a]", "[a]x");
        doNotFit("bb", "[*]", "[b*]");
        fit("-", "[a-c]");
        fit("^", "[^a]");
        fit("a]", "[a]]", "[\\a]]");
        doNotFit("]", "[\\]]");
        fit("\\]", "[\\]]");
    }

    @Promise(number = 9, says = "\\ and a sign: that sign")
    static void thatSign() {
        for (int value = 32; value <= 126; value++) {
            fit(sign(value), "\\" + sign(value));
            doNotFit(value == 'x' ? "y" : "x", "\\" + sign(value));
        }
        doNotFit("n", "\\\\n");
        fit("\\n", "\\\\n");
        doNotFit("abc", "\\*", "a\\*c", "a\\.c");
    }

    /** The LINES from one to another but one. */
    private static String allBut(int but, int from, int to) {
        StringBuilder out = new StringBuilder();
        for (int line = from; line <= to; line++) {
            if (line != but) out.append(out.length() == 0 ? "" : " ").append(line);
        }
        return out.toString();
    }

    @Promise(number = 9, says = "the FLAG must have it")
    static void flagsThatAreAskedFor() {
        int[] values = {0, 1, -1, 999999, -999999, 100000, -100000};
        for (int value : values) {
            ScriptTests x = story(1, "t");
            flagSeven(x, 0, value);
            due(value + "", failing(x, "> a\n? 7 " + value), "");
            due("one beside " + value, failing(x, "> a\n? 7 " + (value > 0 ? value - 1 : value + 1)), "2");
            due("not " + value, failing(x, "> a\n? 7 -" + Math.abs(value)), value > 0 ? "2" : "");
        }
        due("-0 and 0s ahead", failing(new ScriptTests(0), "? 0 -0\n? 0 000000\n? 0 -000000\n? 0 000001\n? 0 -000001"), "4 5");
        for (int flag = 0; flag <= 7; flag++) {
            ScriptTests x = story(1, "t");
            act(x, 0, 1, flag, 12);
            StringBuilder lines = new StringBuilder("> a\n");
            for (int f = 0; f <= 7; f++) lines.append("? ").append(f).append(" 12\n");
            due("FLAG " + flag, failing(x, lines.toString()), allBut(2 + flag, 2, 9));
        }
        ScriptTests x = story(1, "t");
        flagSeven(x, 0, 1000000);
        due("a FLAG that no NUMBER has", failing(x, "> a\n? 7 100000\n? 7 999999\n? 7 000000"), "2 3 4");
    }

    @Promise(number = 9, says = "the ROOM must be it")
    static void roomsThatAreAskedFor() {
        for (int room = 0; room <= 7; room++) {
            ScriptTests x = story(1, "t");
            x.rule(-1, 0, -1, 0, 0, 0, 0, 0, room);
            due("ROOM " + room, failing(x, "> a\n@ 0\n@ 1\n@ 2\n@ 3\n@ 4\n@ 5\n@ 6\n@ 7"), allBut(2 + room, 2, 9));
        }
    }

    @Promise(number = 9, says = "THE END must have come, by it")
    static void endsThatAreAskedFor() {
        for (int end = 1; end <= 9; end++) {
            ScriptTests x = story(1, "t");
            act(x, 0, 6, end, 0);
            String all = "! 1\n! 2\n! 3\n! 4\n! 5\n! 6\n! 7\n! 8\n! 9\n";
            due("it has not come", failing(x, all), "1 2 3 4 5 6 7 8 9");
            due("THE END " + end, failing(x, "> a\n" + all), allBut(1 + end, 2, 10));
        }
    }

    @Promise(number = 9, says = "back to the POINT (none: FAILS)")
    static void noSuchPoint() {
        ScriptTests x = story(1, "t");
        act(x, 0, 1, 0, 1);
        for (int point = 0; point <= 3; point++) {
            due("only " + point, failing(x, "s " + point + "\nb 0\nb 1\nb 2\nb 3"), allBut(2 + point, 2, 5));
        }
        due("it stays as it is", failing(x, "> a\nb 1\n? 0 1\n= t"), "2");
        due("each for itself", failing(x, "s 0\n> a\ns 1\n> a\ns 2\n> a\ns 3\nb 2\n? 0 2\nb 0\n? 0 0\nb 3\n? 0 3\nb 1\n? 0 1"), "");
        due("kept again", failing(x, "s 0\n> a\ns 0\n> a\nb 0\n? 0 1\n> a a\nb 0\n? 0 1"), "");
    }

    @Promise(number = 9, says = "A POINT has ROOM, FLAGS, SEED, THE END, the TEXT SHOWN latest.")
    static void whatAPointHas() {
        ScriptTests x = story(3, "t", "u");
        x.rule(-1, 0, -1, 0, 5, 6, 100, 1, 3);
        x.rule(-1, 1, -1, 0, 6, 8, 0, 0, 7);
        act(x, 2, 1, 0, 5);
        due("back ahead of THE END", failing(x, "> a\ns 1\n> c b\nb 1\n@ 3\n? 0 0\n? 6 38\n= u\n! 8\n> a\n? 6 58"), "9");
        due("back behind THE END", failing(x, "s 0\n> a b\ns 3\nb 0\n= *\n! 8\n> c\nb 3\n! 8\n= t\n@ 7\n? 0 0\n? 6 38\n> c"), "5 6 14");
        due("state", stateOf(x), "7 8 1103527590 0 0 0 0 0 0 0 38 0");
        due("what was SEEN stays so", x.done(0), 3);
    }

    @Promise(number = 9, says = "A POINT has ROOM, FLAGS, SEED")
    static void aPointHasTheSeed() {
        ScriptTests x = story(1, "t");
        act(x, 0, 5, 6, 100);
        due("the same is drawn again", failing(x, "> a\n? 6 38\ns 2\n> a\n? 6 58\n> a a\nb 2\n? 6 38\n> a\n? 6 58"), "");
        due("the SEED behind it", x.state(2), -1770082073);
        failing(x, "s 0\n> a a a\nb 0");
        due("as it begins", x.state(2), 1);
    }

    @Promise(number = 9, says = "A POINT has ROOM, FLAGS")
    static void aPointHasAllFlags() {
        for (int flag = 0; flag <= 7; flag++) {
            ScriptTests x = story(1, "t");
            act(x, 0, 1, flag, 5);
            due("FLAG " + flag, failing(x, "> a\ns 0\n> a\nb 0\n? " + flag + " 5\n> a a\ns 1\nb 0\nb 1\n? " + flag + " 15"), "");
        }
    }

    @Promise(number = 9, says = "a FAULT ends it, and its LINE FAILS as well")
    static void aFaultEndsIt() {
        ScriptTests x = story(2, "t");
        act(x, 0, 4, 0, 0);
        act(x, 1, 1, 0, 1);
        due("the rest is not run", failing(x, "@ 1\n\n> b a b\n@ 1\n> b\n> a"), "1 3!1");
        due("SAID", x.told(7), 2);
        due("at once", failing(x, "> a\n@ 1"), "1!1");
        due("at last", failing(x, "@ 1\n".repeat(39) + "> a").endsWith(" 39 40!1") ? 1 : 0, 1);
        due("all of them", x.told(5), 40);
        due("behind THE END there is none", failing(ended(), "> b a"), "1");
    }

    private static ScriptTests ended() {
        ScriptTests x = story(2, "t");
        act(x, 0, 4, 0, 0);
        act(x, 1, 6, 1, 0);
        return x;
    }

    @Promise(number = 9, says = "a WORD that is to be SAID behind THE END FAILS the LINE (the rest of its WORDS is not SAID)")
    static void behindTheEnd() {
        ScriptTests x = story(2, "t");
        act(x, 0, 6, 2, 0);
        act(x, 1, 1, 0, 1);
        due("THE END by the last WORD of a LINE", failing(x, "> b a\n! 2\n? 0 1\n= t"), "");
        due("a WORD behind it", failing(x, "> b a b b\n? 0 1"), "1");
        due("a LINE behind it", failing(x, "> a\n> b\n> a\n# x\n! 2\n> b b\n? 0 0"), "2 3 6");
        due("one that is none of the STORY's", failing(x, "> a zz\n= t\n> zz\n= t"), "1 3");
        due("SAID", x.told(7), 2 + 2 + 1 + 1);
        due("SHOWN", x.shown(-1), 0);
    }

    // ---- 10 failed

    @Promise(number = 10, says = "LINE i (from 0) that FAILED in the latest RUN: its number (what = 0), 0 or the FAULT (1). UNKNOWN; OUTSIDE.")
    static void linesThatFailed() {
        ScriptTests x = story(1, "t");
        act(x, 0, 2, 0, 0);
        due("no RUN yet", x.failed(0, 0), UNKNOWN);
        failing(x, "\n@ 1\n> a");
        due("the first", x.failed(0, 0), 2);
        due("its FAULT", x.failed(0, 1), 0);
        due("the last", x.failed(1, 0), 3);
        due("its FAULT", x.failed(1, 1), 4);
        for (int i : new int[] {-1, 2, 40, MIN, MAX}) {
            due("LINE " + i, x.failed(i, 0), UNKNOWN);
            due("its FAULT", x.failed(i, 1), UNKNOWN);
            due("UNKNOWN before OUTSIDE", x.failed(i, 2), UNKNOWN);
        }
        for (int what : new int[] {-1, 2, MIN, MAX}) due("what " + what, x.failed(1, what), OUTSIDE);
    }

    @Promise(number = 10, says = "in the latest RUN")
    static void failedInTheLatestRun() {
        ScriptTests x = new ScriptTests(0);
        failing(x, FORTY_LINES);
        due("40 LINES", x.failed(39, 0), 40);
        due("no more", x.failed(40, 0), UNKNOWN);
        x.run(1);
        replay(x, "> a\n.");
        x.storm(1, 1);
        due("a refused RUN, a replay, a STORM", x.failed(39, 0), 40);
        failing(x, "\n\n@ 1");
        due("one LINE", x.failed(0, 0), 3);
        due("those of before are gone", x.failed(1, 0), UNKNOWN);
        failing(x, "@ 0");
        due("none", x.failed(0, 0), UNKNOWN);
    }

    // ---- 11 replay

    /** All bytes behind these: those from one to another may stand, others are WRONG there. */
    private static void onlyStandInTranscript(String ahead, int from, int to, String behind) {
        for (int value = 0; value < 256; value++) {
            int due = value >= from && value <= to ? NONE : ahead.length();
            due("<" + ahead + "> and byte " + value, wrongInTranscript(ahead + sign(value) + behind), due);
        }
    }

    @Promise(number = 11, says = "no LINE of a WORD where one must stand")
    static void noLineOfAWord() {
        onlyStandInTranscript("", '>', '>', " a\n?");
        onlyStandInTranscript(">", ' ', ' ', "a\n?");
        onlyStandInTranscript("> a\n?\n", '>', '>', " a\n?");
        due("a LINE without bytes is none", wrongInTranscript("\n> a\n?"), 0);
        due("one behind a TEXT", wrongInTranscript("> a\n?\n\n> a\n?"), 6);
        due("two TEXTS", wrongInTranscript("> a\n?\n?\n"), 6);
        due("the end behind >", wrongInTranscript(">"), 1);
        due("the end of the LINE behind >", wrongInTranscript(">\n?"), 1);
    }

    @Promise(number = 11, says = "another byte in it")
    static void anotherByteInAWord() {
        onlyStandInTranscript("> ", 'a', 'z', "\n?");
        for (int value = 0; value < 256; value++) {
            boolean right = value >= 'a' && value <= 'z' || value == 10;
            due("five letters and byte " + value, wrongInTranscript("> abcde" + sign(value) + (value == 10 ? "?" : "\n?")), right ? NONE : 7);
        }
        due("no letter, the end", wrongInTranscript("> "), 2);
        due("no letter, a byte 10", wrongInTranscript("> \n?"), 2);
        due("a second WORD", wrongInTranscript("> a b\n?"), 3);
        due("a blank behind", wrongInTranscript("> a \n?"), 3);
    }

    @Promise(number = 11, says = "\"> \" and a WORD (1 to 6 letters)")
    static void oneToSixLetters() {
        for (int n = 1; n <= 6; n++) due(n + " letters", wrongInTranscript("> " + "a".repeat(n) + "\n?"), NONE);
        onlyStandInTranscript("> abcdef", 10, 10, "?");
        due("seven letters", wrongInTranscript("> abcdefg\n?"), 8);
    }

    @Promise(number = 11, says = "in a LINE of a TEXT a byte that is no sign")
    static void noSignInAText() {
        for (int value = 0; value < 256; value++) {
            boolean right = value >= 32 && value <= 126 || value == 10;
            due("byte " + value, wrongInTranscript("> a\n" + sign(value)), right ? NONE : 4);
            due("x and byte " + value, wrongInTranscript("> a\nx" + sign(value)), right ? NONE : 5);
        }
        due("the first such", wrongInTranscript("> a\nx\ty\t"), 5);
        due("a long LINE is only unlike", replay(new ScriptTests(0), "> a\n" + "x".repeat(596)), 2);
    }

    @Promise(number = 11, says = "a LINE of a TEXT that lacks: the end")
    static void aTextThatLacks() {
        due("behind a WORD", wrongInTranscript("> a"), 3);
        due("behind its byte 10", wrongInTranscript("> a\n"), 4);
        due("behind another WORD", wrongInTranscript("> a\n?\n> bc"), 10);
        due("behind its byte 10", wrongInTranscript("> a\n?\n> bc\n"), 11);
        due("the last of 600 bytes", wrongInTranscript("> a\n" + "x".repeat(591) + "\n> a\n"), 600);
        due("a TEXT without signs", wrongInTranscript("> a\n\n"), NONE);
    }

    @Promise(number = 11, says = "more than 40 LINES: the 41st one's first byte")
    static void fortyOneLines() {
        due("40", wrongInTranscript(FORTY_OF_A_TRANSCRIPT), NONE);
        due("the last by the end", wrongInTranscript(FORTY_OF_A_TRANSCRIPT.substring(0, 119)), NONE);
        due("a 41st and 42nd", wrongInTranscript(FORTY_OF_A_TRANSCRIPT + "> a\n?\n"), 120);
        due("a 41st without bytes", wrongInTranscript(FORTY_OF_A_TRANSCRIPT + "\n"), 120);
        due("a 41st that is WRONG itself", wrongInTranscript(FORTY_OF_A_TRANSCRIPT + "> A"), 120);
        due("a place that is WRONG ahead of it", wrongInTranscript("> a\n?\n".repeat(19) + "> A\n?\n> a\n"), 116);
    }

    @Promise(number = 11, says = "-10 less the place that is WRONG")
    static void wrongBeforeUnlike() {
        due("the first place", replay(new ScriptTests(0), "x"), -10);
        due("behind a LINE that is unlike", replay(new ScriptTests(0), "> a\nno\n> A\n?"), -10 - 9);
    }

    @Promise(number = 11, says = "They change nothing, but that what reads THE TAPE uses it up.")
    static void replayUsesUp() {
        ScriptTests x = story(1, "t");
        x.rule(-1, 0, -1, 0, 1, 0, 1, 0, 5);
        replay(x, "> a\nt\n> a\nt");
        String told = toldOf(x), state = stateOf(x);
        due("THE TAPE", x.told(0), 0);
        due("WRONG", replay(x, "> a\nt\n>"), -10 - 7);
        due("THE TAPE", x.told(0), 0);
        due("told", toldOf(x), told);
        due("state", stateOf(x), state);
        due("unlike", replay(x, "> a\nu"), 2);
        due("THE TAPE", x.told(0), 0);
    }

    @Promise(number = 11, says = "the number of the first LINE that is unlike; 0")
    static void theFirstUnlikeLine() {
        ScriptTests x = new ScriptTests(0);
        due("no LINES", x.replay(), 0);
        due("40 alike", replay(x, FORTY_OF_A_TRANSCRIPT), 0);
        due("the first", replay(x, "> a\n!\n> a\n!"), 2);
        due("SAID till there", x.told(7), 21);
        due("the second", replay(x, "> a\n?\n> a\n!\n> a\n?"), 4);
        due("the last", replay(x, FORTY_OF_A_TRANSCRIPT.substring(0, 118) + "!"), 40);
    }

    @Promise(number = 11, says = "the STORY begins anew; each WORD is SAID")
    static void replayBeginsAnew() {
        ScriptTests x = story(2, "t", "end");
        x.rule(0, 0, -1, 0, 5, 0, 100, 0, 2);
        x.rule(2, 1, -1, 0, 6, 9, 0, 1, -1);
        for (int i = 0; i < 2; i++) {
            due("to THE END", replay(x, "> b\n?\n> a\nt\n> b\nend\n> a\n."), 0);
            due("state", stateOf(x), "2 9 1103527590 1 38 0 0 0 0 0 0 0");
        }
        x.replay();
        due("of no LINES", stateOf(x), "0 0 1 -2 0 0 0 0 0 0 0 0");
    }

    @Promise(number = 11, says = "the TEXT SHOWN must be the LINE behind it, sign by sign")
    static void signBySign() {
        String twenty = "abcdefghij klmnopqrs";
        ScriptTests x = story(2, twenty, "");
        shows(x, 0, 0);
        shows(x, 1, 1);
        due("alike", replay(x, "> a\n" + twenty + "\n> b\n\n> a\n" + twenty), 0);
        due("one less", replay(x, "> a\n" + twenty.substring(0, 19)), 2);
        due("one more", replay(x, "> a\n" + twenty + "t"), 2);
        due("a blank more", replay(x, "> a\n" + twenty + " "), 2);
        due("another last sign", replay(x, "> a\n" + twenty.substring(0, 19) + "S"), 2);
        due("another first sign", replay(x, "> a\nA" + twenty.substring(1)), 2);
        due("no PATTERN", replay(x, "> a\n*"), 2);
        due("a sign for none", replay(x, "> b\n "), 2);
        due("none for signs", replay(x, "> a\n\n"), 2);
    }

    @Promise(number = 11, says = "? for TEXT -1")
    static void aQuestionInATranscript() {
        ScriptTests x = story(2, "?");
        shows(x, 0, 0);
        due("no RULE, and none of the STORY's", replay(x, "> b\n?\n> zz\n?\n> a\n?"), 0);
        due("SHOWN", x.shown(-1) * 10 + x.shown(0), 21);
        due("no sign", replay(x, "> b\n\n"), 2);
        due("two", replay(x, "> b\n??"), 2);
        due("another", replay(x, "> b\n!"), 2);
    }

    @Promise(number = 11, says = "a FAULT: the LINE \"!\" and its digit")
    static void aFaultInATranscript() {
        for (int fault = 1; fault <= 4; fault++) {
            ScriptTests x = story(3, "!" + fault);
            act(x, 0, fault == 4 ? 2 : 3, 0, 7);
            act(x, 1, 1, 7, fault == 3 ? 4 : 0);
            shows(x, 2, 0);
            x.holder(0, fault == 4 ? 0 : fault - 1, 4, 0);
            due("FAULT " + fault + ", and it goes on", replay(x, "> b\n!" + fault + "\n> a\n!" + fault + "\n> c\n!" + fault), 0);
            due("the latest", x.told(6), fault);
            due("another digit", replay(x, "> b\n!" + fault + "\n> a\n!" + (fault + 1)), 4);
            due("no digit", replay(x, "> b\n!" + fault + "\n> a\n!"), 4);
            due("more", replay(x, "> b\n!" + fault + "\n> a\n!" + fault + " "), 4);
            due("another sign", replay(x, "> b\n!" + fault + "\n> a\n?" + fault), 4);
            due("what was SHOWN ahead of it", replay(x, "> c\n!" + fault + "\n> b\n\n"), 4);
        }
    }

    @Promise(number = 11, says = "behind THE END the LINE \".\"")
    static void aPointBehindTheEnd() {
        ScriptTests x = story(2, ".", "end");
        x.rule(-1, 0, -1, 0, 6, 1, 0, 1, -1);
        shows(x, 1, 0);
        due("all of them", replay(x, "> b\n.\n> a\nend\n> a\n.\n> b\n.\n> zz\n."), 0);
        due("SAID", x.told(7), 2);
        due("ahead of it", replay(x, "> a\n."), 2);
        due("no sign", replay(x, "> a\nend\n> a\n\n"), 4);
        due("two", replay(x, "> a\nend\n> a\n.."), 4);
        due("the TEXT", replay(x, "> a\nend\n> a\nend"), 4);
        due("?", replay(x, "> a\nend\n> zz\n?"), 4);
    }
}
