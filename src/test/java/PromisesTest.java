/** Each promise of the document in ordinary use; the boundary cases stand in the tests of edges. */
public final class PromisesTest extends Telling {
    private static final int TAKE = 0, OPEN = 1, ROLL = 2, LEAVE = 3, PEEK = 4, COUNT = 5;
    private static final int TAKEN = 0, OPENED = 1, ROLLED = 2, GOODBYE = 3, SILENCE = 4;

    public static void main(String[] args) {
        testAll(PromisesTest.class);
    }

    /**
     * A key is taken in ROOM 0 (FLAG 1), opens the way to ROOM 1, where a die is rolled (FLAG 2) and the story can be left;
     * peek shows what stands in the ROW of HOLDER 0, count divides by FLAG 1.
     */
    private static ScriptTests keyStory() {
        ScriptTests x = new ScriptTests(1);
        for (String w : new String[] {"take", "open", "roll", "leave", "peek", "count"}) word(x, w);
        for (String t : new String[] {"Taken.", "The door opens.", "It rolls.", "Goodbye!", ""}) text(x, t);
        x.rule(0, TAKE, -1, 0, 1, 1, 1, TAKEN, -1);
        x.rule(0, OPEN, 1, 1, 0, 0, 0, OPENED, 1);
        x.rule(1, ROLL, -1, 0, 5, 2, 6, ROLLED, -1);
        x.rule(1, LEAVE, -1, 0, 6, 3, 0, GOODBYE, 7);
        x.rule(-1, PEEK, -1, 0, 3, 0, 1, SILENCE, -1);
        x.rule(-1, COUNT, -1, 0, 2, 3, 1, TAKEN, -1);
        x.holder(0, 2, 2, 50);
        return x;
    }

    @Promise(number = 1, says = "No WORDS, TEXTS, RULES; HOLDERS with NOTHING; a SEED.")
    static void aNewObject() {
        ScriptTests full = keyStory(), empty = new ScriptTests(-5);
        due("told of one", toldOf(full), "6 5 6 0 0 0 0");
        due("told of another", toldOf(empty), "0 0 0 0 0 0 0");
        due("its SEED", empty.seed(0), -5);
    }

    @Promise(number = 2, says = "come behind THE TAPE: how many it has")
    static void feeding() {
        ScriptTests x = new ScriptTests(0);
        due("go", x.feed(0x676F, 2), 2);
        due("ing", x.feed(0x696E67, 3), 5);
        due("the WORD", x.word(), 0);
        due("THE TAPE", x.told(0), 0);
        due("going", word(x, "going"), 0);
    }

    @Promise(number = 3, says = "THE TAPE is a WORD: its number")
    static void words() {
        ScriptTests x = new ScriptTests(0);
        due("north", word(x, "north"), 0);
        due("south", word(x, "south"), 1);
        due("north", word(x, "north"), 0);
        due("go north", word(x, "go north"), OUTSIDE);
    }

    @Promise(number = 4, says = "THE TAPE is a TEXT: its number")
    static void texts() {
        ScriptTests x = new ScriptTests(0);
        due("a TEXT", text(x, "You see a door."), 0);
        due("another", text(x, "It's 5 o'clock, ~?!"), 1);
        due("two LINES", text(x, "one\ntwo"), OUTSIDE);
    }

    @Promise(number = 5, says = "is DONE: its ACT, then the ROOM; its TEXT is SHOWN")
    static void rules() {
        ScriptTests x = keyStory();
        due("another RULE", x.rule(7, TAKE, 1, 1, 4, 3, 0, TAKEN, 0), 6);
        due("its way", failing(x, "> open\n= \\?\n@ 0\n> take\n= Taken.\n? 1 1\n> open\n@ 1\n= The *\n> take\n= ?\n? 1 1"), "");
        due("a number is drawn", failing(x, "> take open roll\n? 2 " + DRAWN_BY_ONE[0] % 6), "");
        due("an item", failing(x, "> peek\n? 7 50\n> take peek\n? 7 51"), "");
        due("a division", failing(x, "> take take take take take count\n? 3 2"), "");
        due("THE END", failing(x, "> take open leave\n! 3\n@ 7\n= Goodbye!"), "");
    }

    @Promise(number = 6, says = "A HOLDER gets NOTHING (sort 0), a BOX of v (1), a ROW of n items v, v + 1, .. (2): 1.")
    static void holders() {
        ScriptTests x = keyStory();
        script(x, "> take peek");
        due("a ROW", x.holder(0, 2, 4, -7), 1);
        due("its item", failingAgain(x, 0), "");
        due("FLAG 7", x.state(11), -6);
        due("a BOX", x.holder(0, 1, 0, 9), 1);
        due("CAST", failingAgain(x, 0), "1!2");
        due("NOTHING", x.holder(0, 0, 0, 0), 1);
        due("NULL", failingAgain(x, 0), "1!1");
    }

    @Promise(number = 7, says = "The SEED of the STORY becomes another one: what it was.")
    static void seeds() {
        ScriptTests x = keyStory();
        due("1", x.seed(1103527590), 1);
        due("its second number", failing(x, "> take open roll\n? 2 " + DRAWN_BY_ONE[1] % 6), "");
        due("another", x.seed(3), 1103527590);
    }

    @Promise(number = 8, says = "THE TAPE is read as a SCRIPT: its number; -10 less the place that is WRONG.")
    static void scripts() {
        ScriptTests x = keyStory();
        due("all kinds of LINES", script(x, "> take open\n= [tT]he door*\n? 1 1\n@ 1\n! 3\ns 0\nb 0\n# so far\n"), 0);
        due("another", script(x, "@ 0"), 1);
        due("a ROOM 9", script(x, "@ 0\n@ 9\n@ 1"), -10 - 6);
        due("SCRIPTS", x.told(4), 2);
    }

    @Promise(number = 9, says = "A RUN: how many LINES FAILED.")
    static void runs() {
        ScriptTests x = keyStory();
        script(x, "> take\n= Token.\n\n> open roll\n@ 0\n= It rolls.\n# behind\nb 2");
        due("three", x.run(0), 3);
        due("which", failingAgain(x, 0), "2 5 8");
        due("SAID", x.told(7), 6);
        due("a FAULT", failing(x, "@ 1\n> take take peek open\n@ 1"), "1 2!3");
        due("a POINT", failing(x, "> take\ns 1\n> open leave\n! 3\nb 1\n> open roll\n@ 1\n= It rolls."), "");
    }

    @Promise(number = 10, says = "LINE i (from 0) that FAILED in the latest RUN")
    static void failed() {
        ScriptTests x = keyStory();
        failing(x, "@ 3\n> take\n? 1 2\n> open count roll peek peek\n> take");
        due("the first", x.failed(0, 0), 1);
        due("the second", x.failed(1, 0), 3);
        due("its FAULT", x.failed(1, 1), 0);
        due("no third", x.failed(2, 0), UNKNOWN);
        failing(x, "\n> count");
        due("the one with a FAULT", x.failed(0, 0), 2);
        due("its FAULT", x.failed(0, 1), 4);
    }

    @Promise(number = 11, says = "THE TAPE is read and replayed as a TRANSCRIPT: 0, or the number of the LINE that is unlike (from 1)")
    static void replays() {
        ScriptTests x = keyStory();
        String alike = "> open\n?\n> count\n!4\n> take\nTaken.\n> peek\n\n> open\nThe door opens.\n> leave\nGoodbye!\n> take\n.\n";
        due("alike", replay(x, alike), 0);
        due("unlike", replay(x, alike.replace("Taken", "taken")), 6);
        due("of a FAULT", replay(x, alike.replace("!4", "!3")), 4);
        due("behind THE END", replay(x, alike.replace(".\n> leave", ".\n> roll").replace("Goodbye!", "It rolls.")), 14);
        due("WRONG", replay(x, alike.replace("> peek", "peek")), -10 - alike.indexOf("> peek"));
    }

    @Promise(number = 12, says = "A STORM of n WORDS (0 to 60): the rule that was BROKEN, 0.")
    static void storms() {
        ScriptTests x = keyStory();
        due("a FAULT", x.storm(stormOf(6, "bcf"), 60), 1);
        due("the PLAY", playOf(x), "bcf");
        due("a TEXT without signs", x.storm(stormOf(6, "ae"), 60), 2);
        due("THE END", x.storm(stormOf(6, "abd"), 60), 0);
        due("the PLAY", playOf(x), "abd");
        x.rule(-1, OPEN, -1, 0, 1, 6, -2, TAKEN, -1);
        due("a FLAG below 0", x.storm(stormOf(6, "dcb"), 60), 3);
    }

    @Promise(number = 13, says = "How many WORDS the PLAY has.")
    static void plays() {
        ScriptTests x = keyStory();
        x.storm(stormOf(6, "cdbf"), 60);
        due("till the FAULT", x.play(), 4);
        x.storm(stormOf(6, "cdbf"), 3);
        due("as many as told", x.play(), 3);
    }

    @Promise(number = 14, says = "WORD i of it.")
    static void played() {
        ScriptTests x = keyStory();
        x.storm(stormOf(6, "cdbf"), 60);
        due("roll", x.played(0), ROLL);
        due("leave", x.played(1), LEAVE);
        due("open", x.played(2), OPEN);
        due("count", x.played(3), COUNT);
    }

    @Promise(number = 15, says = "The PLAY is SHRUNK: how many WORDS it has then.")
    static void shrinks() {
        ScriptTests x = keyStory();
        x.storm(stormOf(6, "cabafce"), 60);
        due("the PLAY", playOf(x), "cabafce");
        due("peek alone", x.shrink(), 1);
        due("the PLAY", playOf(x), "e");
        x.rule(1, TAKE, -1, 0, 0, 0, 0, SILENCE, -1);
        x.storm(stormOf(6, "dabca"), 60);
        due("take wants the way to ROOM 1", x.shrink(), 3);
        due("the PLAY", playOf(x), "aba");
    }

    @Promise(number = 16, says = "The STORY as the latest RUN, replay or STORM left it")
    static void states() {
        ScriptTests x = keyStory();
        failing(x, "> take open roll leave");
        due("behind a RUN", stateOf(x), "7 3 1103527590 3 0 1 " + DRAWN_BY_ONE[0] % 6 + " 0 0 0 0 0");
        replay(x, "> take\nTaken.\n> zzz\n?");
        due("behind a replay", stateOf(x), "0 0 1 -1 0 1 0 0 0 0 0 0");
        x.storm(stormOf(6, "ae"), 60);
        due("behind a STORM", stateOf(x), "0 0 1 4 0 1 0 0 0 0 0 51");
    }

    @Promise(number = 17, says = "How often a RULE was DONE.")
    static void done() {
        ScriptTests x = keyStory();
        failing(x, "> take take open roll roll roll");
        due("take", x.done(0), 2);
        due("open", x.done(1), 1);
        due("roll", x.done(2), 3);
        due("leave", x.done(3), 0);
    }

    @Promise(number = 18, says = "How often a TEXT was SHOWN (-1: \"?\").")
    static void shown() {
        ScriptTests x = keyStory();
        failing(x, "> roll take take count open take roll");
        due("Taken.", x.shown(TAKEN), 3);
        due("It rolls.", x.shown(ROLLED), 1);
        due("?", x.shown(-1), 2);
        due("Goodbye!", x.shown(GOODBYE), 0);
    }

    @Promise(number = 19, says = "The i-th RULE (from 0) that was never DONE; NONE.")
    static void never() {
        ScriptTests x = keyStory();
        failing(x, "> take open leave");
        due("roll", x.never(0), 2);
        due("peek", x.never(1), 4);
        due("count", x.never(2), 5);
        due("no more", x.never(3), NONE);
    }

    @Promise(number = 20, says = "DONE by RULES that were DONE at all, cut.")
    static void share() {
        ScriptTests x = keyStory();
        due("none", shareOf(x), THREW);
        failing(x, "> take take take open roll");
        due("5 by 3", shareOf(x), 1);
        failing(x, "> take take take");
        due("8 by 3", shareOf(x), 2);
    }

    @Promise(number = 21, says = "How many")
    static void told() {
        ScriptTests x = keyStory();
        failing(x, "> take\n@ 4\n> count open\n> peek peek\n> zzz\n@ 1\n= \\?");
        failing(x, "@ 1\n> open\n> count");
        feed(x, "more");
        due("THE TAPE", x.told(0), 4);
        due("the rest", toldOf(x), "6 5 6 2 2 4 8");
    }
}
