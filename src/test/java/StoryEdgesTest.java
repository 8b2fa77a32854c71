/** The boundary cases that the document names of THE STORY: promises 1 to 7, the RULES, the ACTS and the FAULTS. */
public final class StoryEdgesTest extends Telling {
    public static void main(String[] args) {
        testAll(StoryEdgesTest.class);
    }

    // ---- 1 a new object

    @Promise(number = 1, says = "No WORDS, TEXTS, RULES")
    static void nothingIsThere() {
        ScriptTests x = new ScriptTests(5);
        due("told", toldOf(x), "0 0 0 0 0 0 0");
        due("THE TAPE", x.told(0), 0);
        due("a RULE", x.rule(0, 0, -1, 0, 0, 0, 0, 0, 0), UNKNOWN);
        due("a RULE that was DONE", x.done(0), UNKNOWN);
        due("a TEXT that was SHOWN", x.shown(0), UNKNOWN);
        due("?", x.shown(-1), 0);
        due("a RULE that was never DONE", x.never(0), NONE);
        due("a SCRIPT", x.run(0), UNKNOWN);
        due("a LINE that FAILED", x.failed(0, 0), UNKNOWN);
        due("a STORM", x.storm(1, 1), STATE);
        due("a PLAY", x.play(), 0);
        due("a WORD of it", x.played(0), UNKNOWN);
    }

    @Promise(number = 1, says = "HOLDERS with NOTHING")
    static void holdersWithNothing() {
        for (int h = 0; h <= 3; h++) {
            for (int act = 3; act <= 4; act++) {
                ScriptTests x = story(1, "t");
                act(x, 0, act, h, 0);
                due("HOLDER " + h + ", ACT " + act, failing(x, "> a"), "1!1");
            }
        }
    }

    @Promise(number = 1, says = "It begins in ROOM 0, all FLAGS 0, the SEED as told.")
    static void asItBegins() {
        int[] seeds = {0, 1, -1, MIN, MAX};
        for (int seed : seeds) {
            ScriptTests x = new ScriptTests(seed);
            due("state", stateOf(x), "0 0 " + seed + " -2 0 0 0 0 0 0 0 0");
            due("the SEED", x.seed(0), seed);
        }
    }

    @Promise(number = 1, says = "An object is used for at most 512 calls after it has been made")
    static void fiveHundredAndTwelveCalls() {
        ScriptTests x = new ScriptTests(0);
        x.feed('a', 1);
        x.word();
        for (int call = 3; call <= 510; call++) due("call " + call, x.storm(call, 60), 0);
        due("call 511", x.shown(-1), 508 * 60);
        due("call 512", x.told(7), 508 * 60);
    }

    // ---- 2 feed

    @Promise(number = 2, says = "The lowest n bytes of w, the highest of them first, come behind THE TAPE")
    static void lowestBytes() {
        String[] words = {"i", "ia", "iab", "iabc", "iabcd", "iabcde"};
        ScriptTests x = new ScriptTests(0);
        for (int n = 1; n <= 6; n++) {
            x.feed(0x6768696162636465L >> 8 * (6 - n), n);
            due(n + " bytes", x.word(), n - 1);
            due(words[n - 1], word(x, words[n - 1]), n - 1);
        }
        x.feed(0xFFFFFFFFFFFFFF71L, 1);
        due("the others do not count", x.word(), 6);
        due("q", word(x, "q"), 6);
        x.feed(0x3E206162636465FFL, 8);
        due("eight of them", x.script(), -10 - 7);
        x.feed(0xFF20616263646566L, 8);
        due("a highest bit that is set", x.script(), -10);
        x.feed('x', 1);
        x.feed('y', 1);
        x.word();
        due("one behind the other", word(x, "xy"), 7);
    }

    @Promise(number = 2, says = "OUTSIDE: n is not 1 to 8")
    static void oneToEight() {
        ScriptTests x = new ScriptTests(0);
        int[] outside = {0, 9, -1, 16, 600, MIN, MAX};
        for (int n : outside) due("n " + n, x.feed(1, n), OUTSIDE);
        due("THE TAPE", x.told(0), 0);
        for (int n = 1, all = 0; n <= 8; n++) {
            all += n;
            due("n " + n, x.feed(1, n), all);
        }
    }

    @Promise(number = 2, says = "THE TAPE (600 bytes)")
    static void sixHundredBytes() {
        for (int n = 1; n <= 8; n++) {
            ScriptTests x = filled(600 - n);
            due("as many as go", x.feed(-1, n), 600);
            due("one more", x.feed(-1, 1), FULL);
            due("eight more", x.feed(-1, 8), FULL);
            x = filled(601 - n);
            due("one too many", x.feed(-1, n), FULL);
            due("THE TAPE", x.told(0), 601 - n);
        }
    }

    /** An object with so many blanks on THE TAPE. */
    private static ScriptTests filled(int bytes) {
        return feed(new ScriptTests(0), " ".repeat(bytes));
    }

    @Promise(number = 2, says = "Of several refusals the first one here: UNKNOWN (there is no such thing), OUTSIDE")
    static void feedOutsideBeforeFull() {
        ScriptTests x = filled(600);
        due("n 9", x.feed(0, 9), OUTSIDE);
        due("n 0", x.feed(0, 0), OUTSIDE);
    }

    @Promise(number = 2, says = "They change nothing")
    static void feedRefusedChangesNothing() {
        ScriptTests x = feed(new ScriptTests(0), "# " + "x".repeat(595));
        x.feed('z', 9);
        x.feed(0x7A7A7A7AL, 4);
        due("THE TAPE", x.told(0), 597);
        x.feed(0x0A4038L, 3);
        due("what it has", x.script(), -10 - 599);
    }

    @Promise(number = 2, says = "what reads THE TAPE uses it up")
    static void othersLeaveTheTape() {
        ScriptTests x = story(1, "t");
        failing(x, "@ 1\n> a");
        feed(x, "@ 2\n");
        String[] calls = {"rule", "holder", "seed", "run", "failed", "storm", "play", "played", "shrink", "state", "done", "shown",
            "never", "share", "told"};
        int[] answers = {shows(x, 0, 0), x.holder(0, 1, 0, 1), x.seed(1), x.run(0), x.failed(0, 0), x.storm(1, 1), x.play(),
            x.played(0), x.shrink(), x.state(0), x.done(0), x.shown(0), x.never(0), shareOf(x), x.told(0)};
        int[] due = {0, 1, 1, 1, 1, 0, 1, 0, STATE, 0, 2, 2, NONE, 2, 4};
        for (int i = 0; i < calls.length; i++) due(calls[i], answers[i], due[i]);
        refuseAll(x);
        due("THE TAPE", x.told(0), 4);
        due("what it has, and more", failing(x, "@ 0\n@ 3"), "1 3");
    }

    /** Calls that do not read THE TAPE, each of them refused. */
    private static void refuseAll(ScriptTests x) {
        int[] answers = {shows(x, 1, 0), act(x, 0, 7, 0, 0), x.holder(4, 0, 0, 0), x.holder(0, 3, 0, 0), x.run(1), x.failed(9, 0),
            x.failed(0, 2), x.storm(1, 61), x.played(60), x.shrink(), x.state(12), x.done(1), x.shown(1), x.told(8), x.feed(0, 9)};
        int[] due = {UNKNOWN, OUTSIDE, UNKNOWN, OUTSIDE, UNKNOWN, UNKNOWN, OUTSIDE, OUTSIDE, UNKNOWN, STATE, OUTSIDE, UNKNOWN, UNKNOWN,
            OUTSIDE, OUTSIDE};
        for (int i = 0; i < answers.length; i++) due("refusal " + i, answers[i], due[i]);
    }

    // ---- 3 word

    @Promise(number = 3, says = "WORDS of 1 to 6 letters")
    static void oneToSixLetters() {
        ScriptTests x = new ScriptTests(0);
        due("none", x.word(), OUTSIDE);
        for (int n = 1; n <= 6; n++) due(n + " letters", word(x, "abcdef".substring(0, n)), n - 1);
        int[] tooMany = {7, 8, 12, 599, 600};
        for (int n : tooMany) due(n + " letters", word(x, "a".repeat(n)), OUTSIDE);
        due("WORDS", x.told(1), 6);
    }

    @Promise(number = 3, says = "letters a to z")
    static void lettersAToZ() {
        for (int value = 0; value < 256; value++) {
            int due = value >= 'a' && value <= 'z' ? 0 : OUTSIDE;
            String sign = String.valueOf((char) value);
            due("byte " + value, word(new ScriptTests(0), sign), due);
            due("x and byte " + value, word(new ScriptTests(0), "x" + sign), due);
            due("byte " + value + " and x", word(new ScriptTests(0), sign + "x"), due);
        }
    }

    @Promise(number = 3, says = "(numbered as they come, 16 at most)")
    static void sixteenWords() {
        ScriptTests x = new ScriptTests(0);
        for (int i = 0; i < 16; i++) due("WORD " + i, word(x, "w" + (char) ('p' - i)), i);
        due("one more", word(x, "x"), FULL);
        due("six letters", word(x, "xxxxxx"), FULL);
        due("WORDS", x.told(1), 16);
    }

    @Promise(number = 3, says = "its number (the same for one that is there)")
    static void theSameWord() {
        ScriptTests x = new ScriptTests(0);
        String[] words = {"ab", "a", "abc", "b", "ba", "abcdef", "abcdeg", "bbcdef"};
        for (int i = 0; i < words.length; i++) due(words[i], word(x, words[i]), i);
        for (int i = 0; i < words.length; i++) due(words[i] + " again", word(x, words[i]), i);
        due("WORDS", x.told(1), words.length);
        for (int i = words.length; i < 16; i++) word(x, "x" + (char) ('a' + i));
        for (int i = 0; i < words.length; i++) due(words[i] + " if there are 16", word(x, words[i]), i);
    }

    @Promise(number = 3, says = "OUTSIDE: it is none; FULL")
    static void wordOutsideBeforeFull() {
        ScriptTests x = story(16);
        due("none", x.word(), OUTSIDE);
        due("seven letters", word(x, "abcdefg"), OUTSIDE);
        due("a big letter", word(x, "A"), OUTSIDE);
    }

    @Promise(number = 3, says = "They change nothing, but that what reads THE TAPE uses it up.")
    static void wordUsesUp() {
        ScriptTests x = story(15);
        due("OUTSIDE", word(x, "A"), OUTSIDE);
        due("THE TAPE", x.told(0), 0);
        due("a WORD", word(x, "zz"), 15);
        due("THE TAPE", x.told(0), 0);
        due("FULL", word(x, "xyz"), FULL);
        due("THE TAPE", x.told(0), 0);
        due("one that is there", word(x, "zz"), 15);
        due("THE TAPE", x.told(0), 0);
        due("WORDS", x.told(1), 16);
    }

    // ---- 4 text

    @Promise(number = 4, says = "TEXTS of 0 to 20 signs")
    static void noneToTwentySigns() {
        ScriptTests x = new ScriptTests(0);
        for (int n = 0; n <= 20; n++) due(n + " signs", text(x, "~".repeat(n)), n);
        int[] tooMany = {21, 22, 40, 599, 600};
        for (int n : tooMany) due(n + " signs", text(x, " ".repeat(n)), OUTSIDE);
        due("TEXTS", x.told(2), 21);
    }

    @Promise(number = 4, says = "signs (32 to 126")
    static void signs32To126() {
        for (int value = 0; value < 256; value++) {
            int due = value >= 32 && value <= 126 ? 0 : OUTSIDE;
            String sign = String.valueOf((char) value);
            due("byte " + value, text(new ScriptTests(0), sign), due);
            due("x and byte " + value, text(new ScriptTests(0), "x" + sign), due);
            due("byte " + value + " and x", text(new ScriptTests(0), sign + "x"), due);
        }
    }

    @Promise(number = 4, says = "24 at most")
    static void twentyFourTexts() {
        ScriptTests x = new ScriptTests(0);
        for (int i = 0; i < 24; i++) due("TEXT " + i, text(x, "text " + i), i);
        due("one more", text(x, "x"), FULL);
        due("one without signs", x.text(), FULL);
        due("TEXTS", x.told(2), 24);
    }

    @Promise(number = 4, says = "OUTSIDE: it is none; FULL")
    static void textOutsideBeforeFull() {
        ScriptTests x = story(0, "t ".repeat(24).split(" "));
        due("TEXTS", x.told(2), 24);
        due("21 signs", text(x, "x".repeat(21)), OUTSIDE);
        due("a byte 10", text(x, "\n"), OUTSIDE);
    }

    @Promise(number = 4, says = "They change nothing, but that what reads THE TAPE uses it up.")
    static void textUsesUp() {
        ScriptTests x = story(0, "t ".repeat(23).split(" "));
        due("OUTSIDE", text(x, "\t"), OUTSIDE);
        due("THE TAPE", x.told(0), 0);
        due("a TEXT", text(x, "u"), 23);
        due("THE TAPE", x.told(0), 0);
        due("FULL", text(x, "v"), FULL);
        due("THE TAPE", x.told(0), 0);
        due("TEXTS", x.told(2), 24);
    }

    // ---- 5 rule: what it takes

    @Promise(number = 5, says = "UNKNOWN: the WORD, the TEXT")
    static void unknownWordOrText() {
        ScriptTests x = story(2, "t", "u", "v");
        int[] words = {-1, -2, 2, 3, 16, MIN, MAX};
        for (int w : words) due("WORD " + w, x.rule(0, w, -1, 0, 0, 0, 0, 0, 0), UNKNOWN);
        int[] texts = {-1, -2, 3, 4, 24, MIN, MAX};
        for (int t : texts) due("TEXT " + t, x.rule(0, 0, -1, 0, 0, 0, 0, t, 0), UNKNOWN);
        due("the last ones", x.rule(0, 1, -1, 0, 0, 0, 0, 2, 0), 0);
        due("the first ones", x.rule(0, 0, -1, 0, 0, 0, 0, 0, 0), 1);
        ScriptTests wordsOnly = story(1);
        due("no TEXTS", wordsOnly.rule(0, 0, -1, 0, 0, 0, 0, 0, 0), UNKNOWN);
        ScriptTests textsOnly = story(0, "t");
        due("no WORDS", textsOnly.rule(0, 0, -1, 0, 0, 0, 0, 0, 0), UNKNOWN);
    }

    @Promise(number = 5, says = "OUTSIDE: ROOMS (-1 to 7)")
    static void roomsOfARule() {
        ScriptTests x = story(1, "t");
        int[] outside = {-2, 8, MIN, MAX};
        for (int room : outside) {
            due("ROOM " + room, x.rule(room, 0, -1, 0, 0, 0, 0, 0, 0), OUTSIDE);
            due("leads to " + room, x.rule(0, 0, -1, 0, 0, 0, 0, 0, room), OUTSIDE);
        }
        for (int room = -1; room <= 7; room++) due("ROOM " + room, x.rule(room, 0, -1, 0, 0, 0, 0, 0, 6 - room), room + 1);
    }

    @Promise(number = 5, says = "the FLAG (-1 to 7)")
    static void flagOfARule() {
        ScriptTests x = story(1, "t");
        int[] outside = {-2, 8, MIN, MAX};
        for (int flag : outside) due("FLAG " + flag, x.rule(0, 0, flag, 0, 0, 0, 0, 0, 0), OUTSIDE);
        for (int flag = -1; flag <= 7; flag++) due("FLAG " + flag, x.rule(0, 0, flag, 0, 0, 0, 0, 0, 0), flag + 1);
    }

    @Promise(number = 5, says = "the ACT (0 to 6)")
    static void actOfARule() {
        ScriptTests x = story(1, "t");
        int[] outside = {-1, 7, 8, MIN, MAX};
        for (int act : outside) due("ACT " + act, act(x, 0, act, 1, 1), OUTSIDE);
        for (int act = 0; act <= 6; act++) due("ACT " + act, act(x, 0, act, 1, 1), act);
    }

    /** An ACT takes a from one number to another, and nothing beyond; b is fixed. */
    private static void takesA(int act, int from, int to, int b) {
        ScriptTests x = story(1, "t");
        for (int a : new int[] {from - 1, to + 1, MIN, MAX}) due("ACT " + act + ", a " + a, act(x, 0, act, a, b), OUTSIDE);
        for (int a = from; a <= to; a++) due("ACT " + act + ", a " + a, act(x, 0, act, a, b), a - from);
    }

    /** The same of b, at its ends. */
    private static void takesB(int act, int a, int from, int to) {
        ScriptTests x = story(1, "t");
        for (int b : new int[] {from - 1, to + 1, MIN, MAX}) due("ACT " + act + ", b " + b, act(x, 0, act, a, b), OUTSIDE);
        due("ACT " + act + ", b " + from, act(x, 0, act, a, from), 0);
        due("ACT " + act + ", b " + to, act(x, 0, act, a, to), 1);
    }

    @Promise(number = 5, says = "a, b as the ACT wants (FLAGS, HOLDERS, numbers")
    static void flagsAndHoldersOfAnAct() {
        takesA(1, 0, 7, 0);
        takesA(2, 0, 7, 0);
        takesB(2, 0, 0, 7);
        takesA(3, 0, 3, 0);
        takesB(3, 0, 0, 7);
        takesA(4, 0, 3, 0);
        takesA(5, 0, 7, 1);
    }

    @Promise(number = 5, says = "b of 1 -1000 to 1000")
    static void thousandMoreOrLess() {
        takesB(1, 0, -1000, 1000);
        ScriptTests x = story(2, "t");
        act(x, 0, 1, 2, 1000);
        act(x, 1, 1, 2, -1000);
        due("both", failing(x, "> a\n? 2 1000\n> b b\n? 2 -1000"), "");
    }

    @Promise(number = 5, says = "5 FLAG a becomes a number below b (1 to 100) that is drawn")
    static void oneToAHundred() {
        takesB(5, 0, 1, 100);
    }

    @Promise(number = 5, says = "6 THE END a (1 to 9)")
    static void oneToNine() {
        takesA(6, 1, 9, 0);
        for (int end = 1; end <= 9; end++) {
            ScriptTests x = story(1, "t");
            act(x, 0, 6, end, 0);
            failing(x, "> a");
            due("THE END", x.state(1), end);
        }
    }

    @Promise(number = 5, says = "as the ACT wants")
    static void whatAnActDoesNotWant() {
        int[] free = {MIN, -1, 101, 1001, MAX};
        for (int number : free) {
            ScriptTests x = story(1, "t");
            due("a, b of ACT 0", act(x, 0, 0, number, number), 0);
            due("b of ACT 4", act(x, 0, 4, 0, number), 1);
            due("b of ACT 6", act(x, 0, 6, 1, number), 2);
            due("the least value", x.rule(0, 0, 0, number, 0, 0, 0, 0, 0), 3);
            due("the least value of no FLAG", x.rule(0, 0, -1, number, 0, 0, 0, 0, 0), 4);
        }
    }

    @Promise(number = 5, says = "RULES (30 at most)")
    static void thirtyRules() {
        ScriptTests x = story(2, "t", "u");
        for (int i = 0; i < 29; i++) due("RULE " + i, x.rule(7, 0, -1, 0, 0, 0, 0, 0, 0), i);
        due("the last one", shows(x, 0, 1), 29);
        due("one more", shows(x, 1, 1), FULL);
        due("RULES", x.told(3), 30);
        due("the last one is asked, the one more is not", failing(x, "> a\n= u\n> b\n= \\?"), "");
        due("DONE", x.done(29), 1);
        due("no such RULE", x.done(30), UNKNOWN);
    }

    @Promise(number = 5, says = "Of several refusals the first one here: UNKNOWN (there is no such thing), OUTSIDE")
    static void ruleRefusals() {
        ScriptTests x = story(1, "t");
        for (int i = 0; i <= 30; i++) {
            due("UNKNOWN WORD, OUTSIDE", x.rule(8, 1, 8, 0, 7, 0, 0, 0, 8), UNKNOWN);
            due("UNKNOWN TEXT, OUTSIDE", x.rule(8, 0, 8, 0, 7, 0, 0, 1, 8), UNKNOWN);
            due("OUTSIDE", x.rule(8, 0, -1, 0, 0, 0, 0, 0, 0), OUTSIDE);
            due("OUTSIDE", x.rule(0, 0, -1, 0, 0, 0, 0, 0, 8), OUTSIDE);
            due("OUTSIDE", x.rule(0, 0, 8, 0, 0, 0, 0, 0, 0), OUTSIDE);
            due("OUTSIDE", act(x, 0, 6, 0, 0), OUTSIDE);
            due("OUTSIDE", act(x, 0, 5, 0, 0), OUTSIDE);
            due("RULE", shows(x, 0, 0), i < 30 ? i : FULL);
        }
        due("UNKNOWN before FULL", shows(x, 1, 0), UNKNOWN);
    }

    @Promise(number = 5, says = "They change nothing")
    static void ruleRefusedChangesNothing() {
        ScriptTests x = story(1, "t");
        x.rule(0, 1, -1, 0, 0, 0, 0, 0, 0);
        x.rule(0, 0, -1, 0, 6, 10, 0, 0, 0);
        due("RULES", x.told(3), 0);
        due("none is asked", failing(x, "> a\n= \\?"), "");
        due("the first", shows(x, 0, 0), 0);
    }

    // ---- 5 rule: which one is DONE

    @Promise(number = 5, says = "A RULE: a ROOM (-1: any)")
    static void anyRoom() {
        for (int room = 0; room <= 7; room++) {
            ScriptTests x = story(3, "t", "here", "any");
            x.rule(0, 0, -1, 0, 0, 0, 0, 0, room);
            x.rule(room, 1, -1, 0, 0, 0, 0, 1, -1);
            x.rule((room + 1) % 8, 2, -1, 0, 0, 0, 0, 1, -1);
            x.rule(-1, 2, -1, 0, 0, 0, 0, 2, -1);
            due("ROOM " + room, failing(x, "> a\n@ " + room + "\n> b\n= here\n> c\n= any"), "");
        }
    }

    @Promise(number = 5, says = "a FLAG with the least value that it must have (FLAG -1: none)")
    static void noFlagIsAsked() {
        ScriptTests x = story(2, "t", "free", "bound");
        x.rule(-1, 0, -1, MAX, 0, 0, 0, 1, -1);
        x.rule(-1, 1, 0, 1, 0, 0, 0, 2, -1);
        due("no FLAG", failing(x, "> a\n= free\n> b\n= \\?"), "");
        for (int flag = 0; flag <= 7; flag++) {
            ScriptTests y = story(2, "t", "bound");
            act(y, 0, 1, flag, 1);
            y.rule(-1, 1, flag, 1, 0, 0, 0, 1, -1);
            due("FLAG " + flag, failing(y, "> b\n= \\?\n> a b\n= bound"), "");
        }
    }

    @Promise(number = 5, says = "whose FLAG is not less")
    static void flagIsNotLess() {
        int[][] notLess = {{5, 5}, {6, 5}, {0, 0}, {1, 0}, {0, -1}, {-1, -1}, {MIN, MIN}, {MAX, MIN}, {MAX, MAX}, {0, MIN}};
        int[][] less = {{4, 5}, {-1, 0}, {-2, -1}, {0, 1}, {MIN, MIN + 1}, {MAX - 1, MAX}, {MIN, MAX}, {MIN, 1}, {0, MAX}};
        for (int[] pair : notLess) due(pair[0] + " is not less than " + pair[1], askedWith(pair[0], pair[1]), "");
        for (int[] pair : less) due(pair[0] + " is less than " + pair[1], askedWith(pair[0], pair[1]), "2");
    }

    private static String askedWith(int value, int least) {
        ScriptTests x = story(2, "t", "asked");
        flagSeven(x, 0, value);
        x.rule(-1, 1, 7, least, 0, 0, 0, 1, -1);
        return failing(x, "> a b\n= asked");
    }

    @Promise(number = 5, says = "the first RULE, by numbers, of this ROOM (or any), this WORD")
    static void theFirstByNumbers() {
        ScriptTests x = story(2, "0", "1", "2", "3", "4");
        x.rule(-1, 1, -1, 0, 0, 0, 0, 0, -1);
        x.rule(1, 0, -1, 0, 0, 0, 0, 1, -1);
        x.rule(-1, 0, 0, 1, 0, 0, 0, 2, -1);
        x.rule(0, 0, -1, 0, 1, 0, 1, 3, -1);
        x.rule(-1, 0, -1, 0, 0, 0, 0, 4, -1);
        due("any behind this ROOM, then a FLAG", failing(x, "> a\n= 3\n> a\n= 2"), "");
        due("the fourth, then the third", x.done(3) * 10 + x.done(2), 11);
        ScriptTests y = story(1, "any", "here");
        y.rule(-1, 0, -1, 0, 0, 0, 0, 0, -1);
        y.rule(0, 0, -1, 0, 0, 0, 0, 1, -1);
        due("any ahead of this ROOM", failing(y, "> a\n= any"), "");
    }

    @Promise(number = 5, says = "the ROOM where it leads (-1: stays)")
    static void whereItLeads() {
        for (int room = 0; room <= 7; room++) {
            ScriptTests x = story(2, "t");
            x.rule(-1, 0, -1, 0, 0, 0, 0, 0, room);
            x.rule(-1, 1, -1, 0, 0, 0, 0, 0, -1);
            due("ROOM " + room, failing(x, "> a\n@ " + room + "\n> b\n@ " + room), "");
        }
    }

    @Promise(number = 5, says = "None: the TEXT -1, that is \"?\", is SHOWN.")
    static void noneShowsAQuestion() {
        ScriptTests x = story(3, "t");
        x.rule(1, 0, -1, 0, 0, 0, 0, 0, -1);
        x.rule(-1, 1, 0, 1, 0, 0, 0, 0, -1);
        due("another ROOM, a FLAG that is less, no RULE of the WORD", failing(x, "> a\n= \\?\n> b\n= \\?\n> c\n= \\?"), "");
        due("state", stateOf(x), "0 0 1 -1 0 0 0 0 0 0 0 0");
        due("SHOWN", x.shown(-1), 3);
        due("DONE", x.done(0) + x.done(1), 0);
    }

    // ---- 5 rule: the ACTS

    @Promise(number = 5, says = "1 FLAG a becomes b more")
    static void flagsGoRound() {
        int[][] sums = {{MAX, 1, MIN}, {MIN, -1, MAX}, {MAX, 1000, MIN + 999}, {MIN, -1000, MAX - 999}, {-1, 1, 0}, {7, 0, 7}};
        for (int[] sum : sums) {
            ScriptTests x = story(2, "t");
            flagSeven(x, 0, sum[0]);
            act(x, 1, 1, 7, sum[1]);
            failing(x, "> a b");
            due(sum[0] + " and " + sum[1] + " more", x.state(11), sum[2]);
        }
        for (int flag = 0; flag <= 7; flag++) {
            ScriptTests x = story(1, "t");
            act(x, 0, 1, flag, 3);
            failing(x, "> a a");
            for (int f = 0; f <= 7; f++) due("FLAG " + f, x.state(4 + f), f == flag ? 6 : 0);
        }
    }

    @Promise(number = 5, says = "2 FLAG a becomes 12 by FLAG b")
    static void twelveBy() {
        int[][] quotients = {
            {1, 12}, {-1, -12}, {5, 2}, {-5, -2}, {7, 1}, {-7, -1}, {12, 1}, {13, 0}, {-12, -1}, {-13, 0}, {MAX, 0}, {MIN, 0},
        };
        for (int[] q : quotients) {
            ScriptTests x = story(2, "t");
            flagSeven(x, 0, q[0]);
            act(x, 1, 2, 3, 7);
            due("12 by " + q[0], failing(x, "> a b\n? 3 " + q[1]), "");
            due("FLAG b", x.state(11), q[0]);
        }
        ScriptTests x = story(2, "t");
        flagSeven(x, 0, 5);
        act(x, 1, 2, 7, 7);
        due("by itself", failing(x, "> a b\n? 7 2"), "");
    }

    @Promise(number = 5, says = "4 ARITHMETIC")
    static void byNothing() {
        for (int flag = 0; flag <= 7; flag++) {
            ScriptTests x = story(1, "t");
            act(x, 0, 2, 7 - flag, flag);
            due("by FLAG " + flag, failing(x, "> a"), "1!4");
        }
    }

    @Promise(number = 5, says = "3 FLAG 7 becomes the item of the ROW of HOLDER a at FLAG b")
    static void itemsOfARow() {
        for (int h = 0; h <= 3; h++) {
            for (int n = 1; n <= 4; n++) {
                for (int at = 0; at < n; at++) {
                    ScriptTests x = rowStory(h, n, 50, at);
                    due("HOLDER " + h + ", item " + at + " of " + n, failing(x, "> a b\n? 7 " + (50 + at)), "");
                }
            }
        }
        ScriptTests x = story(2, "t");
        flagSeven(x, 0, 3);
        act(x, 1, 3, 0, 7);
        x.holder(0, 2, 4, -3);
        due("at FLAG 7 itself", failing(x, "> a b\n? 7 0\n> b\n? 7 -3\n> b"), "5!3");
    }

    @Promise(number = 5, says = "3 INDEX")
    static void besideARow() {
        for (int n = 1; n <= 4; n++) {
            for (int at : new int[] {n, n + 1, -1, -2, 1000, -1000}) {
                due("item " + at + " of " + n, failing(rowStory(0, n, 50, at), "> a b"), "1!3");
            }
        }
        int[] far = {MIN, MAX, 4, -1};
        for (int at : far) {
            ScriptTests x = story(2, "t");
            flagSeven(x, 0, at);
            act(x, 1, 3, 0, 7);
            x.holder(0, 2, 4, 0);
            due("item " + at + " by FLAG 7", failing(x, "> a b"), "1!3");
            due("FLAG 7 stays", x.state(11), at);
        }
    }

    /** WORD a makes FLAG 2 this index, WORD b takes the item of the ROW there. */
    private static ScriptTests rowStory(int h, int n, int v, int index) {
        ScriptTests x = story(2, "t");
        act(x, 0, 1, 2, index);
        act(x, 1, 3, h, 2);
        x.holder(h, 2, n, v);
        return x;
    }

    @Promise(number = 5, says = "4 FLAG 7 becomes the int of the BOX of HOLDER a")
    static void intOfABox() {
        for (int h = 0; h <= 3; h++) {
            for (int v : new int[] {0, 1, -1, MIN, MAX}) {
                ScriptTests x = story(1, "t");
                act(x, 0, 4, h, 0);
                x.holder(h, 1, 0, v);
                due("a BOX", failing(x, "> a"), "");
                due("FLAG 7", x.state(11), v);
            }
        }
    }

    @Promise(number = 5, says = "FAULTS, by the machine's words: 1 NULL (NOTHING), 2 CAST (the other one)")
    static void nullAndCast() {
        due("an item of NOTHING", faultOf(3, 0, 0), "1!1");
        due("an item of NOTHING, beside", faultOf(3, 0, -1), "1!1");
        due("an item of a BOX", faultOf(3, 1, 0), "1!2");
        due("an item of a BOX, beside", faultOf(3, 1, 9), "1!2");
        due("the int of NOTHING", faultOf(4, 0, 0), "1!1");
        due("the int of a ROW", faultOf(4, 2, 0), "1!2");
        due("the int of a ROW, beside", faultOf(4, 2, 9), "1!2");
        due("an item of a ROW", faultOf(3, 2, 0), "");
        due("the int of a BOX", faultOf(4, 1, 9), "");
    }

    private static String faultOf(int act, int sort, int index) {
        ScriptTests x = story(2, "t");
        act(x, 0, 1, 2, index);
        act(x, 1, act, 0, 2);
        x.holder(0, sort, 2, 40);
        return failing(x, "> a b");
    }

    @Promise(number = 5, says = "the SEED becomes it times 1103515245, and 12345 more (cut to 32 bits), "
        + "and the number is its bits 16 to 30, modulo b")
    static void drawnNumbers() {
        for (int b : new int[] {1, 2, 7, 99, 100}) {
            ScriptTests x = story(1, "t");
            act(x, 0, 5, 4, b);
            StringBuilder lines = new StringBuilder();
            for (int bits : DRAWN_BY_ONE) lines.append("> a\n? 4 ").append(bits % b).append('\n');
            due("below " + b, failing(x, lines.toString()), "");
        }
        int[][] seeds = {{0, 12345}, {1, 1103527590}, {-1, -1103502900}, {MIN, MIN + 12345}, {MAX, 1043980748}, {1103527590, -1770082073}};
        for (int[] s : seeds) {
            ScriptTests x = story(1, "t");
            act(x, 0, 5, 0, 100);
            x.seed(s[0]);
            failing(x, "> a");
            due("the SEED behind " + s[0], x.state(2), s[1]);
            due("the number by it", x.state(4), (s[1] >> 16 & 32767) % 100);
        }
    }

    @Promise(number = 5, says = "behind it nothing is SAID")
    static void behindTheEnd() {
        ScriptTests x = story(2, "t", "end");
        x.rule(-1, 0, -1, 0, 6, 3, 0, 1, 5);
        act(x, 1, 1, 0, 1);
        due("a RUN", failing(x, "> b a b a\n> b\n> zz"), "1 2 3");
        due("state", stateOf(x), "5 3 1 1 1 0 0 0 0 0 0 0");
        due("SAID", x.told(7), 2);
        due("a replay", replay(x, "> b\nt\n> a\nend\n> b\n.\n> a\n.\n> zz\n."), 0);
        due("SAID", x.told(7), 4);
        due("SHOWN", x.shown(0) * 100 + x.shown(1) * 10 + x.shown(-1), 220);
    }

    @Promise(number = 5, says = "The RULE is not DONE then (no TEXT is SHOWN), what is said is over; the story stays as it was.")
    static void aFaultLeavesTheStory() {
        for (int fault = 1; fault <= 4; fault++) {
            ScriptTests x = story(4, "t", "u");
            x.rule(-1, 0, -1, 0, 5, 6, 100, 1, 4);
            x.rule(-1, 1, -1, 0, 1, 7, 9, 1, -1);
            x.rule(-1, 2, -1, 0, fault == 4 ? 2 : 3, fault == 4 ? 7 : 0, fault == 4 ? 0 : 7, 0, 2);
            x.rule(-1, 3, -1, 0, 1, 0, 1, 0, 3);
            x.holder(0, fault == 4 ? 0 : fault - 1, 4, 0);
            due("FAULT " + fault, failing(x, "> a b c d\n@ 7\n> d"), "1!" + fault);
            due("state", stateOf(x), "4 0 1103527590 1 0 0 0 0 0 0 38 9");
            due("DONE", x.done(2) + x.done(3), 0);
            due("SHOWN", x.shown(0) + x.shown(-1), 0);
            due("SAID", x.told(7), 3);
        }
    }

    // ---- 6 holder

    @Promise(number = 6, says = "HOLDERS 0 to 3")
    static void fourHolders() {
        ScriptTests x = new ScriptTests(0);
        for (int h : new int[] {-1, 4, MIN, MAX}) due("HOLDER " + h, x.holder(h, 0, 1, 0), UNKNOWN);
        for (int h = 0; h <= 3; h++) due("HOLDER " + h, x.holder(h, 0, 1, 0), 1);
    }

    @Promise(number = 6, says = "A HOLDER gets NOTHING (sort 0), a BOX of v (1), a ROW of n items v, v + 1, .. (2)")
    static void sortsOfHolders() {
        ScriptTests x = new ScriptTests(0);
        for (int sort : new int[] {-1, 3, MIN, MAX}) due("sort " + sort, x.holder(0, sort, 1, 0), OUTSIDE);
        for (int sort = 0; sort <= 2; sort++) due("sort " + sort, x.holder(0, sort, 1, 0), 1);
        due("NOTHING", faultOf(4, 0, 0), "1!1");
        due("NOTHING behind a BOX", behind(1, 0), "1!1 1!1");
        due("a BOX behind a ROW", behind(2, 1), "1!2 ");
        due("a ROW behind a BOX", behind(1, 2), " 1!2");
        due("NOTHING behind a ROW", behind(2, 0), "1!1 1!1");
    }

    /** The FAULTS of an item and of an int if a HOLDER got one sort and then another. */
    private static String behind(int first, int then) {
        ScriptTests x = story(2, "t");
        act(x, 0, 3, 1, 0);
        act(x, 1, 4, 1, 0);
        x.holder(1, first, 1, 8);
        x.holder(1, then, 1, 9);
        return failing(x, "> a") + " " + failing(x, "> b");
    }

    @Promise(number = 6, says = "a ROW of 1 to 4 ints")
    static void oneToFourInts() {
        ScriptTests x = new ScriptTests(0);
        for (int n : new int[] {0, 5, -1, MIN, MAX}) due("a ROW of " + n, x.holder(0, 2, n, 0), OUTSIDE);
        for (int n = 1; n <= 4; n++) due("a ROW of " + n, x.holder(0, 2, n, 0), 1);
        for (int n : new int[] {0, 5, -1, MIN, MAX}) {
            due("a BOX has no n", x.holder(0, 1, n, 0), 1);
            due("NOTHING has no n", x.holder(0, 0, n, 0), 1);
        }
    }

    @Promise(number = 6, says = "a ROW of n items v, v + 1, ..")
    static void itemsGoRound() {
        int[][] items = {{MAX - 2, 3, MIN}, {MAX, 1, MIN}, {MAX, 0, MAX}, {MIN, 3, MIN + 3}, {-1, 1, 0}};
        for (int[] item : items) {
            ScriptTests x = rowStory(2, 4, item[0], item[1]);
            failing(x, "> a b");
            due("item " + item[1] + " from " + item[0], x.state(11), item[2]);
        }
        ScriptTests x = rowStory(2, 4, 30, 2);
        x.holder(2, 2, 2, 60);
        due("a shorter ROW has no more of the longer one", failing(x, "> a b"), "1!3");
    }

    @Promise(number = 6, says = "UNKNOWN; OUTSIDE")
    static void holderUnknownBeforeOutside() {
        ScriptTests x = new ScriptTests(0);
        due("sort", x.holder(4, 3, 1, 0), UNKNOWN);
        due("n", x.holder(-1, 2, 5, 0), UNKNOWN);
    }

    @Promise(number = 6, says = "They change nothing")
    static void holderRefusedChangesNothing() {
        ScriptTests x = rowStory(1, 2, 70, 1);
        x.holder(1, 2, 5, 0);
        x.holder(1, 2, 0, 0);
        x.holder(1, 3, 2, 0);
        x.holder(5, 0, 2, 0);
        due("the ROW", failing(x, "> a b\n? 7 71"), "");
    }

    // ---- 7 seed

    @Promise(number = 7, says = "The SEED of the STORY becomes another one: what it was.")
    static void anotherSeed() {
        ScriptTests x = new ScriptTests(MIN);
        int[] seeds = {MAX, MAX, 0, -1, MIN, 1};
        int was = MIN;
        for (int seed : seeds) {
            due("behind " + was, x.seed(seed), was);
            was = seed;
        }
    }

    @Promise(number = 7, says = "A RUN of a SCRIPT begins the STORY anew, by its SEED")
    static void allBeginByIt() {
        ScriptTests x = story(1, "t");
        act(x, 0, 5, 0, 100);
        failing(x, "> a a a");
        int thirdSeed = x.state(2);
        due("drawing leaves it", x.seed(0), 1);
        due("what a RUN left stays", x.state(2), thirdSeed);
        x.run(0);
        due("a RUN by another one", x.state(2) == thirdSeed ? 1 : 0, 0);
        x.seed(1);
        failing(x, "> a");
        due("a RUN", x.state(2), 1103527590);
        replay(x, "> a\nt");
        due("a replay", x.state(2), 1103527590);
        x.storm(5, 1);
        due("a STORM", x.state(2), 1103527590);
        due("it is the same", x.seed(1), 1);
    }
}
