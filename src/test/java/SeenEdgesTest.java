/** The boundary cases that the document names of what there is: promises 16 to 21. */
public final class SeenEdgesTest extends Telling {
    public static void main(String[] args) {
        testAll(SeenEdgesTest.class);
    }

    // ---- 16 state

    @Promise(number = 16, says = "0 the ROOM, 1 THE END (0), 2 the SEED now, 3 the TEXT SHOWN latest (-2: none), 4 to 11 FLAGS. OUTSIDE.")
    static void whatIsTold() {
        ScriptTests x = story(1, "t", "u");
        for (int what : new int[] {-1, 12, MIN, MAX}) due("what " + what, x.state(what), OUTSIDE);
        due("no TEXT, no END", stateOf(x), "0 0 1 -2 0 0 0 0 0 0 0 0");
        x.rule(0, 0, -1, 0, 1, 0, 10, 0, 1);
        for (int f = 1; f <= 7; f++) x.rule(f, 0, 0, 1, 1, f, 10 + f, 1, f < 7 ? f + 1 : -1);
        failing(x, "> a a a a a a a a");
        due("all FLAGS", stateOf(x), "7 0 1 1 10 11 12 13 14 15 16 17");
        failing(x, "> zz");
        due("?", stateOf(x), "0 0 1 -1 0 0 0 0 0 0 0 0");
        ScriptTests y = story(1, "t");
        y.rule(-1, 0, -1, 0, 6, 9, 0, 0, 7);
        failing(y, "> a");
        due("THE END", stateOf(y), "7 9 1 0 0 0 0 0 0 0 0 0");
    }

    @Promise(number = 16, says = "The STORY as the latest RUN, replay or STORM left it")
    static void asItWasLeft() {
        ScriptTests x = story(2, "t");
        act(x, 0, 1, 0, 1);
        act(x, 1, 4, 0, 0);
        failing(x, "> a a a");
        due("a RUN", x.state(4), 3);
        replay(x, "> a\nt\n> a\nu\n> a\nt");
        due("a replay to the first unlike LINE", x.state(4), 2);
        x.storm(stormOf(2, "ab"), 60);
        due("a STORM to the one that BREAKS", x.state(4), 1);
        failing(x, "> a a a a b a");
        due("a RUN to the FAULT", x.state(4), 4);
        replay(x, "> a\nt\n> b\n!1\n> a\nt");
        due("a replay beyond the FAULT", x.state(4), 2);
    }

    @Promise(number = 16, says = "as the latest RUN, replay or STORM left it")
    static void nothingElseChangesIt() {
        ScriptTests x = story(1, "t");
        x.rule(-1, 0, -1, 0, 5, 0, 100, 0, 4);
        failing(x, "> a");
        String state = stateOf(x);
        x.seed(77);
        x.holder(0, 1, 0, 5);
        word(x, "new");
        text(x, "new");
        shows(x, 1, 1);
        script(x, "> new");
        x.run(-1);
        x.run(9);
        replay(x, "> new");
        x.storm(1, 61);
        x.shrink();
        due("calls that begin nothing", stateOf(x), state);
    }

    // ---- 17 done, 18 shown

    @Promise(number = 17, says = "How often a RULE was DONE. UNKNOWN.")
    static void unknownRules() {
        ScriptTests x = story(1, "t");
        due("there are none", x.done(0), UNKNOWN);
        shows(x, 0, 0);
        shows(x, 0, 0);
        for (int rule : new int[] {-1, 2, 30, MIN, MAX}) due("RULE " + rule, x.done(rule), UNKNOWN);
        due("not yet", x.done(0), 0);
        failing(x, "> a a a");
        due("thrice", x.done(0), 3);
        due("the last, never", x.done(1), 0);
    }

    @Promise(number = 17, says = "SEEN: RULES that were DONE, TEXTS that were SHOWN, by RUNS, replays and STORMS")
    static void seenByAllThree() {
        ScriptTests x = story(1, "t");
        shows(x, 0, 0);
        failing(x, "> a zz");
        due("a RUN", seen(x), "1 1 1 2");
        replay(x, "> a\nt\n> zz\n?\n> a\nt\n> zz\n?");
        due("a replay", seen(x), "3 3 3 6");
        x.storm(1, 10);
        due("a STORM", seen(x), "13 13 3 16");
        replay(x, "> a\nu\n> a\nt");
        due("a replay to the first unlike LINE", seen(x), "14 14 3 17");
        replay(x, "> a\nt\n>");
        due("what is not replayed", seen(x), "14 14 3 17");
        x.run(0);
        due("a RUN again", seen(x), "15 15 4 19");
    }

    /** How often RULE 0 was DONE, TEXT 0 and ? were SHOWN, and how many WORDS were SAID. */
    private static String seen(ScriptTests x) {
        return x.done(0) + " " + x.shown(0) + " " + x.shown(-1) + " " + x.told(7);
    }

    @Promise(number = 18, says = "How often a TEXT was SHOWN (-1: \"?\"). UNKNOWN.")
    static void unknownTexts() {
        ScriptTests x = story(2);
        due("there are none", x.shown(0), UNKNOWN);
        due("?", x.shown(-1), 0);
        for (int i = 0; i < 24; i++) text(x, "t" + i);
        for (int text : new int[] {-2, 24, 25, MIN, MAX}) due("TEXT " + text, x.shown(text), UNKNOWN);
        shows(x, 0, 23);
        failing(x, "> a b a zz a");
        due("the last", x.shown(23), 3);
        due("the one ahead of it", x.shown(22), 0);
        due("the first", x.shown(0), 0);
        due("?", x.shown(-1), 2);
        ScriptTests y = story(1, "t", "t");
        shows(y, 0, 1);
        failing(y, "> a");
        due("each by its number, of the same signs", y.shown(0) * 10 + y.shown(1), 1);
    }

    // ---- 19 never, 20 share

    @Promise(number = 19, says = "The i-th RULE (from 0) that was never DONE; NONE.")
    static void neverDone() {
        ScriptTests x = story(15, "t");
        due("no RULES", x.never(0), NONE);
        for (int i = 0; i < 30; i++) {
            x.rule(i % 2, i / 2, -1, 0, 0, 0, 0, 0, 1 - i % 2);
            due("the last", x.never(i), i);
            due("no more", x.never(i + 1), NONE);
        }
        for (int i : new int[] {-1, 30, MIN, MAX}) due("i " + i, x.never(i), NONE);
        failing(x, "> a b c");
        int[] left = {1, 2, 5, 6};
        for (int i = 0; i < left.length; i++) due("i " + i, x.never(i), left[i]);
        due("the last", x.never(26), 29);
        due("no more", x.never(27), NONE);
        failing(x, "> a a b b c c d d e e f f g g h h i i j j k k l l m m n n o");
        due("the only one", x.never(0), 29);
        due("no more", x.never(1), NONE);
        failing(x, "> a b o o");
        due("none is left", x.never(0), NONE);
    }

    @Promise(number = 19, says = "The RULE is not DONE then")
    static void aFaultIsNotDone() {
        ScriptTests x = story(1, "t");
        act(x, 0, 4, 0, 0);
        failing(x, "> a");
        replay(x, "> a\n!1");
        x.storm(1, 1);
        due("never", x.never(0), 0);
        due("DONE", x.done(0), 0);
        due("share", shareOf(x), THREW);
    }

    @Promise(number = 20, says = "ArithmeticException: none was.")
    static void noneWasDone() {
        ScriptTests x = story(2, "t");
        due("no RULES", shareOf(x), THREW);
        shows(x, 0, 0);
        due("never DONE", shareOf(x), THREW);
        failing(x, "> b zz");
        due("only ? was SHOWN", shareOf(x), THREW);
        String told = toldOf(x), state = stateOf(x);
        due("again", shareOf(x), THREW);
        due("told", toldOf(x), told);
        due("state", stateOf(x), state);
        failing(x, "> a");
        due("one was", shareOf(x), 1);
    }

    @Promise(number = 20, says = "share() throws ArithmeticException")
    static void theMachineDoesNotThrow() {
        try {
            due("share", new ScriptTests(0).share(), THREW);
        } catch (ArithmeticException e) {
            due("a division by 0", "/ by zero".equals(e.getMessage()) ? 1 : 0, 0);
        }
    }

    @Promise(number = 20, says = "DONE by RULES that were DONE at all, cut.")
    static void cutShares() {
        ScriptTests x = story(4, "t");
        for (int w = 0; w < 4; w++) shows(x, w, 0);
        failing(x, "> a a a a a");
        due("5 by 1", shareOf(x), 5);
        failing(x, "> b");
        due("6 by 2", shareOf(x), 3);
        failing(x, "> b");
        due("7 by 2", shareOf(x), 3);
        failing(x, "> c");
        due("8 by 3", shareOf(x), 2);
        failing(x, "> c");
        due("9 by 3", shareOf(x), 3);
        ScriptTests y = story(15, "t");
        for (int i = 0; i < 30; i++) y.rule(i % 2, i / 2, -1, 0, 0, 0, 0, 0, 1 - i % 2);
        String all = "> a a b b c c d d e e f f g g h h i i j j k k l l m m n n o o";
        due("all 30", failing(y, all), "");
        due("30 by 30", shareOf(y), 1);
        failing(y, all.substring(0, all.length() - 2));
        due("59 by 30", shareOf(y), 1);
        failing(y, "> a");
        due("60 by 30", shareOf(y), 2);
    }

    // ---- 21 told

    @Promise(number = 21, says = "How many: 0 bytes on THE TAPE, 1 WORDS, 2 TEXTS, 3 RULES, 4 SCRIPTS")
    static void howMany() {
        ScriptTests x = new ScriptTests(0);
        for (int what : new int[] {-1, 8, MIN, MAX}) due("what " + what, x.told(what), OUTSIDE);
        for (int what = 0; what <= 7; what++) due("what " + what, x.told(what), 0);
        for (int i = 0; i < 16; i++) word(x, String.valueOf((char) ('a' + i)));
        for (int i = 0; i < 24; i++) text(x, "t" + i);
        for (int i = 0; i < 30; i++) shows(x, 0, 0);
        for (int i = 0; i < 10; i++) script(x, "> a");
        feed(x, "x".repeat(600));
        due("bytes", x.told(0), 600);
        due("all that goes", toldOf(x), "16 24 30 10 0 0 0");
    }

    @Promise(number = 21, says = "5 LINES that FAILED in the latest RUN")
    static void linesThatFailed() {
        ScriptTests x = new ScriptTests(0);
        for (int lines : new int[] {40, 0, 1}) {
            failing(x, "@ 1\n".repeat(lines));
            due(lines + " LINES", x.told(5), lines);
        }
        replay(x, "> a\n!");
        x.run(7);
        due("a replay, a refused RUN", x.told(5), 1);
    }

    @Promise(number = 21, says = "6 the latest FAULT (0)")
    static void theLatestFault() {
        ScriptTests x = story(3, "t");
        act(x, 0, 4, 0, 0);
        act(x, 1, 2, 0, 0);
        due("none", x.told(6), 0);
        failing(x, "> c");
        due("none yet", x.told(6), 0);
        failing(x, "> a");
        due("of a RUN", x.told(6), 1);
        replay(x, "> b\n!4");
        due("of a replay", x.told(6), 4);
        x.storm(stormOf(3, "ca"), 60);
        due("of a STORM", x.told(6), 1);
        failing(x, "> c");
        due("it stays the latest", x.told(6), 1);
        replay(x, "> a\n!1\n> b\n!4\n> c\n?");
        due("the later of two", x.told(6), 4);
    }

    @Promise(number = 21, says = "7 WORDS SAID in all that is SEEN. OUTSIDE.")
    static void wordsSaid() {
        ScriptTests x = story(3, "t");
        act(x, 0, 6, 1, 0);
        act(x, 1, 4, 0, 0);
        due("none", x.told(7), 0);
        failing(x, "> c zz c");
        due("no RULE, none of the STORY's", x.told(7), 3);
        failing(x, "> c a c\n> c");
        due("not behind THE END", x.told(7), 5);
        failing(x, "> c b c\n> c");
        due("the FAULT's, and none behind it", x.told(7), 7);
        replay(x, "> b\n!1\n> a\nt\n> c\n.");
        due("a replay", x.told(7), 9);
        x.storm(stormOf(3, "ccb"), 60);
        due("a STORM", x.told(7), 12);
        x.shrink();
        due("not what shrinking tries", x.told(7), 12);
    }
}
