/** The boundary cases that the document names of STORMS, the PLAY and shrinking: promises 12 to 15. */
public final class StormEdgesTest extends Telling {
    public static void main(String[] args) {
        testAll(StormEdgesTest.class);
    }

    // ---- 12 storm

    @Promise(number = 12, says = "A STORM of n WORDS (0 to 60)")
    static void noneToSixty() {
        ScriptTests x = story(3, "t");
        for (int n : new int[] {-1, 61, MIN, MAX}) due("n " + n, x.storm(1, n), OUTSIDE);
        for (int n : new int[] {0, 1, 59, 60}) {
            due("n " + n, x.storm(1, n), 0);
            due("the PLAY", x.play(), n);
        }
        due("SAID", x.told(7), 120);
    }

    @Promise(number = 12, says = "STATE: there are no WORDS.")
    static void noWords() {
        ScriptTests x = new ScriptTests(0);
        due("60", x.storm(1, 60), STATE);
        due("none", x.storm(1, 0), STATE);
        word(x, "a");
        due("one WORD", x.storm(1, 60), 0);
        due("SHOWN", x.shown(-1), 60);
    }

    @Promise(number = 12, says = "OUTSIDE; STATE")
    static void outsideBeforeState() {
        ScriptTests x = new ScriptTests(0);
        due("61", x.storm(1, 61), OUTSIDE);
        due("-1", x.storm(1, -1), OUTSIDE);
    }

    @Promise(number = 12, says = "They change nothing")
    static void stormRefusedChangesNothing() {
        ScriptTests x = story(2, "t", "");
        x.rule(-1, 0, -1, 0, 1, 0, 1, 0, 2);
        shows(x, 1, 1);
        due("rule 2", x.storm(stormOf(2, "aab"), 60), 2);
        String state = stateOf(x), told = toldOf(x);
        x.storm(1, 61);
        x.storm(1, -1);
        due("the PLAY", playOf(x), "aab");
        due("state", stateOf(x), state);
        due("told", toldOf(x), told);
        due("the rule that was BROKEN", x.shrink(), 1);
    }

    @Promise(number = 12, says = "drawn by a number x of its own (x becomes x times 1103515245, and 12345 more; "
        + "bits 16 to 30, modulo how many WORDS there are)")
    static void drawnWords() {
        for (int words = 1; words <= 16; words++) {
            ScriptTests x = story(words, "t");
            x.storm(1, 10);
            for (int i = 0; i < 10; i++) due("WORD " + i + " of " + words, x.played(i), DRAWN_BY_ONE[i] % words);
        }
        int[][] firsts = {{0, 0}, {-1, -1103502900 >> 16 & 32767}, {MIN, 0}, {MAX, 1043980748 >> 16 & 32767}};
        for (int[] first : firsts) {
            ScriptTests x = story(16, "t");
            x.storm(first[0], 1);
            due("the first by " + first[0], x.played(0), first[1] % 16);
        }
        ScriptTests x = story(2, "t");
        x.storm(99, 3);
        due("the SEED stays", x.state(2), 1);
        ScriptTests y = story(5, "t");
        for (int w = 0; w < 5; w++) act(y, w, 5, w, 100);
        y.storm(1, 10);
        for (int i = 0; i < 10; i++) due("WORD " + i + " while numbers are drawn", y.played(i), DRAWN_BY_ONE[i] % 5);
    }

    @Promise(number = 12, says = "are SAID to the STORY begun anew")
    static void begunAnew() {
        ScriptTests x = story(1, "t");
        x.rule(-1, 0, -1, 0, 1, 0, 2, 0, 3);
        failing(x, "> a a a");
        x.storm(1, 5);
        due("five", stateOf(x), "3 0 1 0 10 0 0 0 0 0 0 0");
        x.storm(1, 1);
        due("one", stateOf(x), "3 0 1 0 2 0 0 0 0 0 0 0");
        x.storm(1, 0);
        due("none", stateOf(x), "0 0 1 -2 0 0 0 0 0 0 0 0");
        due("SAID", x.told(7), 9);
    }

    /** The rule that is BROKEN by a STORM of so many WORDS, all of them one that has this ACT and TEXT. */
    private static int broken(int n, int act, int a, int b, int text) {
        ScriptTests x = story(1, "t", "", " ");
        x.rule(-1, 0, -1, 0, act, a, b, text, -1);
        int broken = x.storm(4, n);
        due("SAID", x.told(7), x.play());
        return broken;
    }

    @Promise(number = 12, says = "1 no FAULT")
    static void noFault() {
        due("NULL", broken(9, 4, 0, 0, 0), 1);
        due("ARITHMETIC", broken(9, 2, 0, 0, 0), 1);
        due("its TEXT is not SHOWN", broken(9, 2, 0, 0, 1), 1);
        due("of no WORDS", broken(0, 4, 0, 0, 0), 0);
        for (int sort = 0; sort <= 2; sort++) {
            ScriptTests x = story(2, "t");
            act(x, 0, 3, 0, 0);
            act(x, 1, 1, 0, 4);
            x.holder(0, sort, 4, 0);
            due("a ROW at FLAG 0", x.storm(stormOf(2, "ba"), 2), 1);
            due("the FAULT", x.told(6), sort + 1);
        }
    }

    @Promise(number = 12, says = "2 no TEXT without signs")
    static void noTextWithoutSigns() {
        due("no sign", broken(9, 0, 0, 0, 1), 2);
        due("a blank", broken(9, 0, 0, 0, 2), 0);
        due("of no WORDS", broken(0, 0, 0, 0, 1), 0);
        ScriptTests x = story(1, "");
        due("? has a sign", x.storm(1, 60), 0);
    }

    @Promise(number = 12, says = "3 no FLAG below 0")
    static void noFlagBelowZero() {
        for (int flag = 0; flag <= 7; flag++) {
            due("FLAG " + flag + ", -1", broken(9, 1, flag, -1, 0), 3);
            due("FLAG " + flag + ", 0", broken(9, 1, flag, 0, 0), 0);
        }
        ScriptTests x = story(2, "t");
        act(x, 0, 1, 0, 1);
        act(x, 1, 1, 0, -1);
        due("1 and 0 and -1", x.storm(stormOf(2, "abb"), 60), 3);
        due("the PLAY", playOf(x), "abb");
        ScriptTests y = story(1, "t");
        flagSeven(y, 0, MIN);
        due("the least int", y.storm(1, 60), 3);
    }

    @Promise(number = 12, says = "the rule that was BROKEN")
    static void theFirstOfSeveral() {
        due("2 and 3", broken(9, 1, 0, -1, 1), 2);
        due("only 3", broken(9, 1, 0, -1, 0), 3);
        ScriptTests x = story(1, "t");
        due("none", x.storm(1, 60), 0);
    }

    @Promise(number = 12, says = "till one BREAKS a rule that must hold, or THE END comes")
    static void tillOneBreaks() {
        ScriptTests x = story(3, "t", "");
        shows(x, 0, 0);
        shows(x, 1, 1);
        act(x, 2, 6, 3, 0);
        due("one BREAKS", x.storm(stormOf(3, "aabac"), 60), 2);
        due("the PLAY", playOf(x), "aab");
        due("SAID", x.told(7), 3);
        due("THE END", x.storm(stormOf(3, "acbb"), 60), 0);
        due("the PLAY", playOf(x), "ac");
        due("state", x.state(1), 3);
        due("one BREAKS by the last of n", x.storm(stormOf(3, "aab"), 3), 2);
        due("n is less", x.storm(stormOf(3, "aab"), 2), 0);
        due("the PLAY", playOf(x), "aa");
        due("BREAKS by THE END itself", broken(9, 6, 1, 0, 1), 2);
        due("THE END BREAKS none", broken(9, 6, 1, 0, 0), 0);
    }

    // ---- 13 play, 14 played

    @Promise(number = 13, says = "The PLAY is what was SAID by then, the last one BREAKING.")
    static void thePlay() {
        ScriptTests x = story(2, "t");
        due("no STORM", x.play(), 0);
        due("it has none", x.storm(1, 0), 0);
        due("the PLAY", x.play(), 0);
        x.storm(1, 60);
        due("nothing BREAKS", x.play(), 60);
        act(x, 1, 4, 0, 0);
        x.storm(stormOf(2, "aaab"), 60);
        due("the FAULT is the last", playOf(x), "aaab");
        x.storm(1, 0);
        due("the latest STORM's", x.play(), 0);
    }

    @Promise(number = 14, says = "WORD i of it. UNKNOWN.")
    static void wordsOfThePlay() {
        ScriptTests x = story(3, "t");
        due("no STORM", x.played(0), UNKNOWN);
        x.storm(1, 60);
        for (int i : new int[] {-1, 60, 61, MIN, MAX}) due("WORD " + i, x.played(i), UNKNOWN);
        due("the first", x.played(0), 16838 % 3);
        due("the last is one", x.played(59) >= 0 ? 1 : 0, 1);
        x.storm(1, 4);
        due("the last", x.played(3), 17515 % 3);
        due("of the STORM before", x.played(4), UNKNOWN);
        act(x, 0, 1, 0, -1);
        x.storm(stormOf(3, "bcba"), 60);
        x.shrink();
        due("the one that is left", x.played(0), 0);
        due("those that went", x.played(1), UNKNOWN);
    }

    // ---- 15 shrink

    @Promise(number = 15, says = "STATE: none BROKE a rule.")
    static void noneBroke() {
        ScriptTests x = story(3, "t", "");
        shows(x, 1, 1);
        act(x, 2, 6, 1, 0);
        due("no STORM", x.shrink(), STATE);
        x.storm(stormOf(3, "aab"), 2);
        due("nothing BROKE", x.shrink(), STATE);
        due("the PLAY", playOf(x), "aa");
        x.storm(stormOf(3, "aac"), 60);
        due("THE END", x.shrink(), STATE);
        x.storm(stormOf(3, "aab"), 60);
        x.storm(1, 0);
        due("the latest one broke none", x.shrink(), STATE);
        x.storm(stormOf(3, "aab"), 60);
        due("one BROKE", x.shrink(), 1);
    }

    @Promise(number = 15, says = "The PLAY is SHRUNK: how many WORDS it has then.")
    static void shrunk() {
        ScriptTests x = story(3, "t", "");
        act(x, 0, 1, 0, 1);
        x.rule(-1, 1, 0, 2, 0, 0, 0, 1, -1);
        due("rule 2", x.storm(stormOf(3, "bcacacab"), 60), 2);
        due("three are left", x.shrink(), 3);
        due("the PLAY", playOf(x), "aab");
        due("none can go", x.shrink(), 3);
        due("the PLAY", playOf(x), "aab");
        ScriptTests y = story(2, "t");
        act(y, 1, 4, 0, 0);
        due("rule 1", y.storm(stormOf(2, "b"), 60), 1);
        due("the only one cannot go", y.shrink(), 1);
        due("the PLAY", playOf(y), "b");
    }

    @Promise(number = 15, says = "SHRUNK: as long as some WORD of the PLAY can go")
    static void sixtyWords() {
        ScriptTests x = story(16, "t");
        act(x, 15, 4, 0, 0);
        due("rule 1", x.storm(stormWithFirst(16, 'p', 59), 60), 1);
        due("the PLAY", x.play(), 60);
        due("only the last is wanted", x.shrink(), 1);
        due("the PLAY", playOf(x), "p");
        ScriptTests y = story(1, "t");
        y.rule(-1, 0, 0, 59, 4, 0, 0, 0, -1);
        act(y, 0, 1, 0, 1);
        due("rule 1", y.storm(1, 60), 1);
        due("all are wanted", y.shrink(), 60);
    }

    @Promise(number = 15, says = "BREAKS the same rule at its last WORD")
    static void theSameRule() {
        // b shows the TEXT without signs behind a, else its FLAG falls below 0
        ScriptTests x = story(2, "t", "");
        act(x, 0, 1, 0, 1);
        x.rule(-1, 1, 0, 1, 0, 0, 0, 1, -1);
        act(x, 1, 1, 1, -1);
        due("rule 2", x.storm(stormOf(2, "aab"), 60), 2);
        due("b alone BREAKS another", x.shrink(), 2);
        due("the PLAY", playOf(x), "ab");
        // b meets a FAULT behind a, else it shows the TEXT without signs
        ScriptTests y = story(2, "t", "");
        act(y, 0, 1, 0, 1);
        y.rule(-1, 1, 0, 1, 4, 0, 0, 0, -1);
        shows(y, 1, 1);
        due("rule 1", y.storm(stormOf(2, "aaab"), 60), 1);
        due("b alone BREAKS another", y.shrink(), 2);
        due("the PLAY", playOf(y), "ab");
    }

    @Promise(number = 15, says = "BREAKS the same rule at its last WORD, not before")
    static void notBefore() {
        for (int rule = 1; rule <= 3; rule++) due("rule " + rule + " at c, and at b again", shrunkBy(rule, rule), "acb");
    }

    @Promise(number = 15, says = "till one BREAKS a rule that must hold")
    static void noOtherRuleBefore() {
        due("rule 2 at c, 1 at b", shrunkBy(2, 1), "acb");
        due("rule 3 at c, 1 at b", shrunkBy(3, 1), "acb");
        due("rule 1 at c, 2 at b", shrunkBy(1, 2), "acb");
        due("rule 3 at c, 2 at b", shrunkBy(3, 2), "acb");
        due("rule 1 at c, 3 at b", shrunkBy(1, 3), "acb");
        due("rule 2 at c, 3 at b", shrunkBy(2, 3), "acb");
    }

    /**
     * What is left of a c b, which BREAKS a rule at b: a opens the way of c to ROOM 1, and b BREAKS none behind a in ROOM 0.
     * Without a, c BREAKS a rule of its own, and b would BREAK behind it as it did.
     */
    private static String shrunkBy(int ruleOfC, int ruleOfB) {
        ScriptTests x = story(3, "t", "");
        act(x, 0, 1, 0, 1);
        x.rule(0, 1, 0, 1, 0, 0, 0, 0, -1);
        breaks(x, 1, ruleOfB);
        x.rule(0, 2, 0, 1, 0, 0, 0, 0, 1);
        breaks(x, 2, ruleOfC);
        due("rule " + ruleOfB, x.storm(stormOf(3, "acb"), 60), ruleOfB);
        due("WORDS", x.shrink(), 3);
        return playOf(x);
    }

    private static void breaks(ScriptTests x, int word, int rule) {
        if (rule == 1) act(x, word, 4, 0, 0);
        if (rule == 2) shows(x, word, 1);
        if (rule == 3) act(x, word, 1, 1, -1);
    }

    @Promise(number = 15, says = "so that what is left BREAKS the same rule at its last WORD")
    static void nothingIsSaidBehindTheEnd() {
        // b is THE END if a was not SAID; c BREAKS wherever it is SAID
        ScriptTests x = story(3, "t", "");
        act(x, 0, 1, 0, 1);
        x.rule(-1, 1, 0, 1, 0, 0, 0, 0, 1);
        act(x, 1, 6, 1, 0);
        shows(x, 2, 1);
        due("rule 2", x.storm(stormOf(3, "abc"), 60), 2);
        due("c alone", x.shrink(), 1);
        // b leads to where c BREAKS, be it THE END or not
        ScriptTests y = story(3, "t", "");
        act(y, 0, 1, 0, 1);
        y.rule(-1, 1, 0, 1, 0, 0, 0, 0, 1);
        y.rule(-1, 1, -1, 0, 6, 1, 0, 0, 1);
        y.rule(1, 2, -1, 0, 0, 0, 0, 1, -1);
        due("rule 2", y.storm(stormOf(3, "abc"), 60), 2);
        due("c wants b, b wants a", y.shrink(), 3);
    }

    @Promise(number = 15, says = "the first such goes")
    static void theFirstGoes() {
        // a or b opens for c
        ScriptTests x = story(3, "t", "");
        act(x, 0, 1, 0, 1);
        act(x, 1, 1, 0, 1);
        x.rule(-1, 2, 0, 1, 0, 0, 0, 1, -1);
        String[][] plays = {{"abc", "bc"}, {"bac", "ac"}, {"abbac", "ac"}, {"baabc", "bc"}};
        for (String[] play : plays) {
            due("rule 2", x.storm(stormOf(3, play[0]), 60), 2);
            due(play[0], x.shrink(), 2);
            due(play[0], playOf(x), play[1]);
        }
    }

    @Promise(number = 15, says = "as long as some WORD of the PLAY can go so that what is left BREAKS")
    static void aSecondLookFromTheFirst() {
        // a leads from ROOM 0 to 1 and back, c BREAKS in ROOM 0: none of two a can go alone
        ScriptTests x = story(3, "t", "");
        x.rule(0, 0, -1, 0, 0, 0, 0, 0, 1);
        x.rule(1, 0, -1, 0, 0, 0, 0, 0, 0);
        x.rule(0, 2, -1, 0, 0, 0, 0, 1, -1);
        due("rule 2", x.storm(stormOf(3, "aabc"), 60), 2);
        due("b goes, none of the two a", x.shrink(), 3);
        due("the PLAY", playOf(x), "aac");
        // a can go only when b went: a counts for b's THE END
        ScriptTests y = story(3, "t", "");
        act(y, 0, 1, 0, 1);
        y.rule(-1, 1, 0, 1, 0, 0, 0, 0, -1);
        act(y, 1, 6, 1, 0);
        shows(y, 2, 1);
        due("rule 2", y.storm(stormOf(3, "abc"), 60), 2);
        due("b went, then a", y.shrink(), 1);
        due("the PLAY", playOf(y), "c");
    }

    @Promise(number = 15, says = "some WORD of the PLAY can go")
    static void theLastMayGo() {
        // behind the STORM the HOLDER of a loses its BOX: then a meets the FAULT itself, and b, the last, is the one that can go
        ScriptTests x = story(2, "t");
        x.rule(0, 0, -1, 0, 4, 0, 0, 0, 1);
        x.rule(1, 1, -1, 0, 4, 1, 0, 0, -1);
        x.holder(0, 1, 0, 3);
        due("rule 1", x.storm(stormOf(2, "ab"), 60), 1);
        x.holder(0, 0, 0, 0);
        due("a is left", x.shrink(), 1);
        due("the PLAY", playOf(x), "a");
    }

    @Promise(number = 15, says = "are SAID to the STORY begun anew")
    static void shrinkingBeginsByTheSeed() {
        // by the SEED 1 the numbers below 100 that a draws are 38, then 58
        for (int drawn = 1; drawn <= 2; drawn++) {
            ScriptTests x = story(2, "t", "");
            act(x, 0, 5, 0, 100);
            x.rule(-1, 1, 0, drawn == 1 ? 38 : 58, 0, 0, 0, 1, -1);
            due("rule 2", x.storm(stormOf(2, "aab"), 60), 2);
            due("b wants number " + drawn, x.shrink(), drawn + 1);
        }
    }

    @Promise(number = 15, says = "(not by what shrinking tries)")
    static void shrinkingIsNotSeen() {
        ScriptTests x = story(3, "t", "");
        act(x, 0, 1, 0, 1);
        x.rule(-1, 1, 0, 2, 4, 0, 0, 1, 7);
        x.rule(-1, 1, -1, 0, 0, 0, 0, 0, 6);
        x.storm(stormOf(3, "bcacacab"), 60);
        String state = stateOf(x), told = toldOf(x);
        int done = x.done(0) * 100 + x.done(1) * 10 + x.done(2), shown = x.shown(-1) * 100 + x.shown(0) * 10 + x.shown(1);
        due("three are left", x.shrink(), 3);
        due("state", stateOf(x), state);
        due("told", toldOf(x), told);
        due("DONE", x.done(0) * 100 + x.done(1) * 10 + x.done(2), done);
        due("SHOWN", x.shown(-1) * 100 + x.shown(0) * 10 + x.shown(1), shown);
    }

    @Promise(number = 15, says = "They change nothing")
    static void shrinkRefusedChangesNothing() {
        ScriptTests x = story(2, "t");
        x.storm(1, 9);
        String play = playOf(x), state = stateOf(x), told = toldOf(x);
        due("STATE", x.shrink(), STATE);
        due("the PLAY", playOf(x), play);
        due("state", stateOf(x), state);
        due("told", toldOf(x), told);
    }
}
