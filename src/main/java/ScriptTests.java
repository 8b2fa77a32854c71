/**
 * Tests of a story: scripts, transcripts and storms of words.
 * The promises stand in ../shared/DOC.md; words in capitals there keep their meaning in the comments here.
 */
public final class ScriptTests {
    public static final int NONE = -1, UNKNOWN = -2, OUTSIDE = -3, STATE = -4, FULL = -5;

    private static final int FLAGS = 8, ROOMS = 8, HOLDERS = 4, POINTS = 4, ROW_ITEMS = 4;
    private static final int WORDS = 16, WORD_LETTERS = 6, TEXTS = 24, TEXT_SIGNS = 20;
    private static final int RULES = 30, SCRIPTS = 10, LINES = 40, TAPE_BYTES = 600, STORM_WORDS = 60;
    private static final int NOTHING = 0, BOX = 1, ROW = 2;
    private static final int NULL_FAULT = 1, CAST_FAULT = 2, INDEX_FAULT = 3, ARITHMETIC_FAULT = 4;
    private static final int ASKING_TEXT = -1, NO_TEXT = -2;
    private static final int WRONG_BASE = -10;
    private static final int NEW_LINE = 10, END_OF_BYTES = -1;

    private final Bytes tape = new Bytes(TAPE_BYTES);
    private final Story story;
    private final Stage stage;
    private final Runner runner;
    private final Storm storms;
    private final Bytes[] scripts = new Bytes[SCRIPTS];
    private int scriptCount;

    public ScriptTests(int seed) {
        story = new Story(seed);
        stage = new Stage(story);
        runner = new Runner(story, stage);
        storms = new Storm(story, stage);
    }

    // ---- the story

    public int feed(long w, int n) {
        if (n < 1 || n > 8) return OUTSIDE;
        if (tape.length + n > TAPE_BYTES) return FULL;
        for (int i = n - 1; i >= 0; i--) tape.append((int) (w >>> (8 * i)) & 255);
        return tape.length;
    }

    public int word() {
        int answer = addWord();
        tape.clear();
        return answer;
    }

    private int addWord() {
        if (Grammar.lettersEnd(tape, 0) != tape.length) return OUTSIDE;
        int there = story.words.find(tape, 0, tape.length);
        return there != NONE ? there : story.words.append(tape);
    }

    public int text() {
        int answer = addText();
        tape.clear();
        return answer;
    }

    private int addText() {
        if (tape.length > TEXT_SIGNS || Grammar.signsEnd(tape, 0) != tape.length) return OUTSIDE;
        return story.texts.append(tape);
    }

    public int rule(int room, int word, int flag, int least, int act, int a, int b, int text, int to) {
        if (!story.words.has(word) || !story.texts.has(text)) return UNKNOWN;
        if (!inside(room, -1, ROOMS - 1) || !inside(to, -1, ROOMS - 1) || !inside(flag, -1, FLAGS - 1)) return OUTSIDE;
        if (!actWants(act, a, b)) return OUTSIDE;
        Rule rule = story.nextRule();
        if (rule == null) return FULL;
        rule.room = room;
        rule.word = word;
        rule.flag = flag;
        rule.least = least;
        rule.act = act;
        rule.a = a;
        rule.b = b;
        rule.text = text;
        rule.to = to;
        return story.ruleCount - 1;
    }

    private static boolean actWants(int act, int a, int b) {
        switch (act) {
            case 0: return true;
            case 1: return inside(a, 0, FLAGS - 1) && inside(b, -1000, 1000);
            case 2: return inside(a, 0, FLAGS - 1) && inside(b, 0, FLAGS - 1);
            case 3: return inside(a, 0, HOLDERS - 1) && inside(b, 0, FLAGS - 1);
            case 4: return inside(a, 0, HOLDERS - 1);
            case 5: return inside(a, 0, FLAGS - 1) && inside(b, 1, 100);
            case 6: return inside(a, 1, 9);
            default: return false;
        }
    }

    private static boolean inside(int number, int least, int most) {
        return number >= least && number <= most;
    }

    public int holder(int h, int sort, int n, int v) {
        if (!inside(h, 0, HOLDERS - 1)) return UNKNOWN;
        if (!inside(sort, NOTHING, ROW)) return OUTSIDE;
        if (sort == ROW && !inside(n, 1, ROW_ITEMS)) return OUTSIDE;
        story.holders[h].take(sort, sort == ROW ? n : 1, v);
        return 1;
    }

    public int seed(int s) {
        int was = story.firstSeed;
        story.firstSeed = s;
        return was;
    }

    // ---- scripts

    public int script() {
        int answer = addScript();
        tape.clear();
        return answer;
    }

    private int addScript() {
        // A place that is WRONG is no refusal: the call that is refused does not tell it.
        if (scriptCount < 0 || scriptCount >= scripts.length) return FULL;
        int wrong = Grammar.wrongInScript(tape);
        if (wrong != NONE) return WRONG_BASE - wrong;
        scripts[scriptCount] = tape.copy();
        scriptCount++;
        return scriptCount - 1;
    }

    public int run(int script) {
        if (!inside(script, 0, scriptCount - 1)) return UNKNOWN;
        Bytes lines = scripts[script];
        return lines == null ? UNKNOWN : runner.runThrough(lines);
    }

    public int failed(int i, int what) {
        if (!inside(i, 0, runner.failedCount - 1)) return UNKNOWN;
        if (!inside(what, 0, 1)) return OUTSIDE;
        return what == 0 ? runner.failedLines[i] : runner.failedFaults[i];
    }

    public int replay() {
        int wrong = Grammar.wrongInTranscript(tape);
        int answer = wrong != NONE ? WRONG_BASE - wrong : firstUnlikeLine();
        tape.clear();
        return answer;
    }

    private int firstUnlikeLine() {
        stage.begin();
        int at = 0;
        for (int line = 2; line <= LINES && at < tape.length; line += 2) {
            int wordEnd = Grammar.lineEnd(tape, at);
            int textEnd = Grammar.lineEnd(tape, wordEnd + 1);
            if (!answersAlike(at + 2, wordEnd, textEnd)) return line;
            at = textEnd + 1;
        }
        return 0;
    }

    private boolean answersAlike(int wordStart, int wordEnd, int textEnd) {
        int start = wordEnd + 1;
        if (stage.now.end != 0) return textEnd - start == 1 && tape.at(start) == '.';
        int fault = stage.hear(story.words.find(tape, wordStart, wordEnd));
        if (fault != 0) return textEnd - start == 2 && tape.at(start) == '!' && tape.at(start + 1) == '0' + fault;
        return story.textStands(stage.now.latest, tape, start, textEnd);
    }

    // ---- storms

    public int storm(int x, int n) {
        if (!inside(n, 0, STORM_WORDS)) return OUTSIDE;
        if (story.words.count == 0) return STATE;
        return storms.rage(x, n);
    }

    public int play() {
        return storms.length;
    }

    public int played(int i) {
        return inside(i, 0, storms.length - 1) ? storms.words[i] : UNKNOWN;
    }

    public int shrink() {
        if (storms.broke == 0) return STATE;
        return storms.shorten();
    }

    // ---- what there is

    public int state(int what) {
        switch (what) {
            case 0: return stage.now.room;
            case 1: return stage.now.end;
            case 2: return stage.now.seed;
            case 3: return stage.now.latest;
            default: return inside(what, 4, 3 + FLAGS) ? stage.now.flag(what - 4) : OUTSIDE;
        }
    }

    public int done(int rule) {
        return inside(rule, 0, story.ruleCount - 1) ? stage.doneCounts[rule] : UNKNOWN;
    }

    public int shown(int text) {
        if (text != ASKING_TEXT && !story.texts.has(text)) return UNKNOWN;
        return stage.shownCounts[text + 1];
    }

    public int never(int i) {
        int left = i;
        for (int rule = 0; rule < story.ruleCount; rule++) {
            if (stage.doneCounts[rule] != 0) continue;
            if (left == 0) return rule;
            left--;
        }
        return NONE;
    }

    public int share() throws ArithmeticException {
        int total = 0;
        int rules = 0;
        for (int rule = 0; rule < story.ruleCount; rule++) {
            total += stage.doneCounts[rule];
            if (stage.doneCounts[rule] > 0) rules++;
        }
        if (rules == 0) throw new ArithmeticException("no RULE was DONE");
        return total / rules;
    }

    public int told(int what) {
        switch (what) {
            case 0: return tape.length;
            case 1: return story.words.count;
            case 2: return story.texts.count;
            case 3: return story.ruleCount;
            case 4: return scriptCount;
            case 5: return runner.failedCount;
            case 6: return stage.latestFault;
            case 7: return stage.saidCount;
            default: return OUTSIDE;
        }
    }

    /** Bytes as they came: THE TAPE, or a SCRIPT that was kept of it. */
    private static final class Bytes {
        final byte[] row;
        int length;

        Bytes(int room) {
            row = new byte[room < 0 ? 0 : room];
        }

        int at(int place) {
            return place < 0 || place >= length || place >= row.length ? END_OF_BYTES : row[place] & 255;
        }

        void append(int value) {
            if (length < 0 || length >= row.length) return;
            row[length] = (byte) value;
            length++;
        }

        void clear() {
            length = 0;
        }

        Bytes copy() {
            Bytes copied = new Bytes(length);
            for (int i = 0; i < length; i++) copied.append(at(i));
            return copied;
        }
    }

    /** The WORDS or the TEXTS, numbered as they came, in one row of equal places. */
    private static final class Entries {
        final int width;
        final byte[] signs;
        final int[] lengths;
        int count;

        Entries(int room, int width) {
            int rows = room < 0 ? 0 : room;
            this.width = width < 0 ? 0 : width;
            signs = new byte[rows * this.width];
            lengths = new int[rows];
        }

        boolean has(int i) {
            return i >= 0 && i < count && i < lengths.length;
        }

        int lengthOf(int i) {
            return i >= 0 && i < count && i < lengths.length ? lengths[i] : 0;
        }

        int signOf(int i, int place) {
            if (place < 0 || place >= lengthOf(i)) return END_OF_BYTES;
            int at = i * width + place;
            return at < 0 || at >= signs.length ? END_OF_BYTES : signs[at];
        }

        int find(Bytes bytes, int start, int end) {
            for (int i = 0; i < count; i++) {
                if (stands(i, bytes, start, end)) return i;
            }
            return NONE;
        }

        boolean stands(int i, Bytes bytes, int start, int end) {
            if (lengthOf(i) != end - start) return false;
            for (int place = 0; place < end - start; place++) {
                if (signOf(i, place) != bytes.at(start + place)) return false;
            }
            return true;
        }

        int append(Bytes bytes) {
            if (count < 0 || count >= lengths.length || bytes.length > width) return FULL;
            int start = count * width;
            for (int place = 0; place < bytes.length; place++) {
                int at = start + place;
                if (at >= 0 && at < signs.length) signs[at] = (byte) bytes.at(place);
            }
            lengths[count] = bytes.length;
            count++;
            return count - 1;
        }
    }

    private static final class Rule {
        int room, word, flag, least, act, a, b, text, to;

        boolean fits(Moment now, int said) {
            if (word != said) return false;
            if (room != -1 && room != now.room) return false;
            return flag == -1 || now.flag(flag) >= least;
        }
    }

    private static final class Holder {
        final int[] items = new int[ROW_ITEMS];
        int sort = NOTHING;
        int count;

        void take(int newSort, int n, int v) {
            sort = newSort;
            count = n < 0 ? 0 : n < items.length ? n : items.length;
            for (int i = 0; i < count && i < items.length; i++) items[i] = v + i;
        }

        /** The FAULT that an ACT meets which wants an item of this sort at this index, or 0. */
        int faultAt(int wanted, int index) {
            if (sort == NOTHING) return NULL_FAULT;
            if (sort != wanted) return CAST_FAULT;
            return index < 0 || index >= count ? INDEX_FAULT : 0;
        }

        int item(int index) {
            return index < 0 || index >= items.length ? 0 : items[index];
        }
    }

    /** All of the STORY that changes while WORDS are SAID: what a POINT keeps. */
    private static final class Moment {
        final int[] flags = new int[FLAGS];
        int room, seed, end;
        int latest = NO_TEXT;

        void begin(int firstSeed) {
            for (int i = 0; i < flags.length; i++) flags[i] = 0;
            room = 0;
            seed = firstSeed;
            end = 0;
            latest = NO_TEXT;
        }

        void become(Moment other) {
            for (int i = 0; i < flags.length; i++) flags[i] = other.flag(i);
            room = other.room;
            seed = other.seed;
            end = other.end;
            latest = other.latest;
        }

        int flag(int i) {
            return i < 0 || i >= flags.length ? 0 : flags[i];
        }

        void setFlag(int i, int value) {
            if (i >= 0 && i < flags.length) flags[i] = value;
        }

        boolean hasFlagBelowZero() {
            for (int i = 0; i < flags.length; i++) {
                if (flags[i] < 0) return true;
            }
            return false;
        }
    }

    /** The STORY as it was told: it changes no counts, so that shrinking can try plays with it unseen. */
    private static final class Story {
        static final int NO_RULE = -1;

        final Entries words = new Entries(WORDS, WORD_LETTERS);
        final Entries texts = new Entries(TEXTS, TEXT_SIGNS);
        final Rule[] rules = new Rule[RULES];
        final Holder[] holders = new Holder[HOLDERS];
        int ruleCount;
        int firstSeed;

        Story(int seed) {
            firstSeed = seed;
            for (int i = 0; i < rules.length; i++) rules[i] = new Rule();
            for (int i = 0; i < holders.length; i++) holders[i] = new Holder();
        }

        Rule nextRule() {
            if (ruleCount < 0 || ruleCount >= rules.length) return null;
            ruleCount++;
            return rules[ruleCount - 1];
        }

        /** Answers the RULE that was DONE, NO_RULE, or NO_RULE less the FAULT. */
        int say(Moment now, int word) {
            int number = words.has(word) ? firstThatFits(now, word) : NO_RULE;
            if (number < 0 || number >= rules.length) {
                now.latest = ASKING_TEXT;
                return NO_RULE;
            }
            Rule rule = rules[number];
            int fault = act(rule, now);
            if (fault != 0) return NO_RULE - fault;
            if (rule.to != -1) now.room = rule.to;
            now.latest = rule.text;
            return number;
        }

        private int firstThatFits(Moment now, int word) {
            for (int i = 0; i < ruleCount && i < rules.length; i++) {
                if (rules[i].fits(now, word)) return i;
            }
            return NO_RULE;
        }

        private int act(Rule rule, Moment now) {
            switch (rule.act) {
                case 1:
                    now.setFlag(rule.a, now.flag(rule.a) + rule.b);
                    return 0;
                case 2:
                    return divide(rule, now);
                case 3:
                    return takeItem(rule.a, ROW, now.flag(rule.b), now);
                case 4:
                    return takeItem(rule.a, BOX, 0, now);
                case 5:
                    now.seed = nextSeed(now.seed);
                    now.setFlag(rule.a, drawn(now.seed, rule.b));
                    return 0;
                case 6:
                    now.end = rule.a;
                    return 0;
                default:
                    return 0;
            }
        }

        private int divide(Rule rule, Moment now) {
            int divisor = now.flag(rule.b);
            if (divisor == 0) return ARITHMETIC_FAULT;
            now.setFlag(rule.a, 12 / divisor);
            return 0;
        }

        private int takeItem(int h, int sort, int index, Moment now) {
            if (h < 0 || h >= holders.length) return NULL_FAULT;
            int fault = holders[h].faultAt(sort, index);
            if (fault == 0) now.setFlag(7, holders[h].item(index));
            return fault;
        }

        static int nextSeed(int seed) {
            return seed * 1103515245 + 12345;
        }

        static int drawn(int seed, int below) {
            return below < 1 ? 0 : ((seed >>> 16) & 32767) % below;
        }

        int textLength(int text) {
            return text == ASKING_TEXT ? 1 : texts.lengthOf(text);
        }

        int textSign(int text, int place) {
            return text == ASKING_TEXT ? '?' : texts.signOf(text, place);
        }

        boolean textStands(int text, Bytes bytes, int start, int end) {
            if (text == ASKING_TEXT) return end - start == 1 && bytes.at(start) == '?';
            return texts.stands(text, bytes, start, end);
        }
    }

    /** The STORY as it is played, with all that is SEEN of it. */
    private static final class Stage {
        final Story story;
        final Moment now = new Moment();
        final int[] doneCounts = new int[RULES];
        final int[] shownCounts = new int[TEXTS + 1];
        int saidCount;
        int latestFault;

        Stage(Story story) {
            this.story = story;
            now.seed = story.firstSeed;
        }

        void begin() {
            now.begin(story.firstSeed);
        }

        /** A WORD is SAID and counted: the FAULT, or 0. */
        int hear(int word) {
            int outcome = story.say(now, word);
            saidCount++;
            if (outcome < Story.NO_RULE) {
                latestFault = Story.NO_RULE - outcome;
                return latestFault;
            }
            if (outcome >= 0 && outcome < doneCounts.length) doneCounts[outcome]++;
            int shownAt = now.latest + 1;
            if (shownAt >= 0 && shownAt < shownCounts.length) shownCounts[shownAt]++;
            return 0;
        }
    }

    /**
     * Where bytes end that may stand, and the first that cannot.
     * A place that is wrong is answered as ~place, which is below 0, where a right one is answered as it is.
     */
    private static final class Grammar {
        static boolean isSign(int value) {
            return value >= 32 && value <= 126;
        }

        private static boolean endsLine(int value) {
            return value == NEW_LINE || value == END_OF_BYTES;
        }

        static int lineEnd(Bytes bytes, int start) {
            int at = start;
            while (at < bytes.length && bytes.at(at) != NEW_LINE) at++;
            return at;
        }

        static int signsEnd(Bytes bytes, int start) {
            int at = start;
            while (at < bytes.length && isSign(bytes.at(at))) at++;
            return at;
        }

        /** Behind the 1 to 6 letters of a WORD. */
        static int lettersEnd(Bytes bytes, int start) {
            int letters = 0;
            while (letters < WORD_LETTERS && isLetter(bytes.at(start + letters))) letters++;
            return letters == 0 ? ~start : start + letters;
        }

        private static boolean isLetter(int value) {
            return value >= 'a' && value <= 'z';
        }

        /** The place that is WRONG, or NONE. */
        static int wrongInScript(Bytes bytes) {
            int at = 0;
            for (int line = 1; line <= TAPE_BYTES && at < bytes.length; line++) {
                if (bytes.at(at) != NEW_LINE) {
                    if (line > LINES) return at;
                    int end = scriptLine(bytes, at);
                    if (end < 0) return ~end;
                    at = end;
                }
                at++;
            }
            return NONE;
        }

        private static int scriptLine(Bytes bytes, int at) {
            int kind = bytes.at(at);
            if (!isKind(kind)) return ~at;
            if (bytes.at(at + 1) != ' ') return ~(at + 1);
            int start = at + 2;
            switch (kind) {
                case '>': return words(bytes, start);
                case '=': return pattern(bytes, start);
                case '?': return flagAndNumber(bytes, start);
                case '@': return onlyDigit(bytes, start, '0', '7');
                case '!': return onlyDigit(bytes, start, '1', '9');
                case 's': return onlyDigit(bytes, start, '0', '3');
                case 'b': return onlyDigit(bytes, start, '0', '3');
                default: return lineEnd(bytes, start);
            }
        }

        private static boolean isKind(int value) {
            return value == '>' || value == '=' || value == '?' || value == '@'
                || value == '!' || value == 's' || value == 'b' || value == '#';
        }

        private static int words(Bytes bytes, int start) {
            int at = start;
            for (int count = 0; count < TAPE_BYTES; count++) {
                int end = lettersEnd(bytes, at);
                if (end < 0 || endsLine(bytes.at(end))) return end;
                if (bytes.at(end) != ' ') return ~end;
                at = end + 1;
            }
            return ~at;
        }

        private static int pattern(Bytes bytes, int start) {
            int at = start;
            while (at <= bytes.length) {
                int value = bytes.at(at);
                if (endsLine(value)) return at;
                int end = patternPart(bytes, at, value);
                if (end < 0) return end;
                at = end > at ? end : at + 1;
            }
            return ~at;
        }

        private static int patternPart(Bytes bytes, int at, int value) {
            if (!isSign(value)) return ~at;
            if (value == '\\') return isSign(bytes.at(at + 1)) ? at + 2 : ~(at + 1);
            return value == '[' ? choice(bytes, at + 1) : at + 1;
        }

        private static int choice(Bytes bytes, int start) {
            int at = start;
            while (at < bytes.length && isSign(bytes.at(at)) && bytes.at(at) != ']') at++;
            return at == start || bytes.at(at) != ']' ? ~at : at + 1;
        }

        private static int flagAndNumber(Bytes bytes, int start) {
            if (!isDigit(bytes.at(start), '0', '7')) return ~start;
            if (bytes.at(start + 1) != ' ') return ~(start + 1);
            int first = bytes.at(start + 2) == '-' ? start + 3 : start + 2;
            int digits = 0;
            while (digits < 6 && isDigit(bytes.at(first + digits), '0', '9')) digits++;
            int end = first + digits;
            return digits > 0 && endsLine(bytes.at(end)) ? end : ~end;
        }

        private static int onlyDigit(Bytes bytes, int at, int least, int most) {
            if (!isDigit(bytes.at(at), least, most)) return ~at;
            return endsLine(bytes.at(at + 1)) ? at + 1 : ~(at + 1);
        }

        static boolean isDigit(int value, int least, int most) {
            return value >= least && value <= most;
        }

        /** The place that is WRONG, or NONE. */
        static int wrongInTranscript(Bytes bytes) {
            int at = 0;
            for (int line = 1; line <= LINES && at < bytes.length; line += 2) {
                int wordEnd = transcriptWord(bytes, at);
                if (wordEnd < 0) return ~wordEnd;
                if (wordEnd + 1 >= bytes.length) return bytes.length;
                int textEnd = signsEnd(bytes, wordEnd + 1);
                if (!endsLine(bytes.at(textEnd))) return textEnd;
                at = textEnd + 1;
            }
            return at < bytes.length ? at : NONE;
        }

        private static int transcriptWord(Bytes bytes, int at) {
            if (bytes.at(at) != '>') return ~at;
            if (bytes.at(at + 1) != ' ') return ~(at + 1);
            int end = lettersEnd(bytes, at + 2);
            return end < 0 || endsLine(bytes.at(end)) ? end : ~end;
        }
    }

    /** A PATTERN against a TEXT, all ways at once: bit k of a set is up if the first k signs can be matched by now. */
    private static final class Pattern {
        static boolean fits(Bytes bytes, int start, int end, Story story, int text) {
            int length = Math.min(story.textLength(text), TEXT_SIGNS);
            int all = (1 << (length + 1)) - 1;
            int reached = 1;
            int at = start;
            while (at < end) {
                int next = Math.max(partEnd(bytes, at, end), at + 1);
                if (bytes.at(at) == '*') {
                    reached = (reached | -reached) & all;
                } else {
                    reached = oneSignFurther(bytes, at, next, story, text, reached) & all;
                }
                at = next;
            }
            return (reached >> length & 1) != 0;
        }

        private static int partEnd(Bytes bytes, int at, int end) {
            int value = bytes.at(at);
            if (value == '\\') return at + 2;
            if (value != '[') return at + 1;
            int close = at + 1;
            while (close < end && bytes.at(close) != ']') close++;
            return close + 1;
        }

        private static int oneSignFurther(Bytes bytes, int at, int next, Story story, int text, int reached) {
            int further = 0;
            for (int k = 0; k < TEXT_SIGNS; k++) {
                if ((reached >> k & 1) != 0 && takes(bytes, at, next, story.textSign(text, k))) further |= 1 << (k + 1);
            }
            return further;
        }

        private static boolean takes(Bytes bytes, int at, int next, int sign) {
            int value = bytes.at(at);
            if (value == '.') return true;
            if (value == '\\') return bytes.at(at + 1) == sign;
            if (value != '[') return value == sign;
            for (int i = at + 1; i < next - 1; i++) {
                if (bytes.at(i) == sign) return true;
            }
            return false;
        }
    }

    /** RUNS of SCRIPTS, and what FAILED in the latest one. */
    private static final class Runner {
        final Story story;
        final Stage stage;
        final Moment[] points = new Moment[POINTS];
        final boolean[] kept = new boolean[POINTS];
        final int[] failedLines = new int[LINES];
        final int[] failedFaults = new int[LINES];
        int failedCount;
        int fault;

        Runner(Story story, Stage stage) {
            this.story = story;
            this.stage = stage;
            for (int i = 0; i < points.length; i++) points[i] = new Moment();
        }

        int runThrough(Bytes script) {
            stage.begin();
            for (int i = 0; i < kept.length; i++) kept[i] = false;
            failedCount = 0;
            fault = 0;
            int start = 0;
            for (int line = 1; line <= TAPE_BYTES && start < script.length && fault == 0; line++) {
                int end = Grammar.lineEnd(script, start);
                boolean right = script.at(start) == '>' ? saysAll(script, start + 2, end) : comesOut(script, start, end);
                if (!right) noteFailed(line);
                start = end + 1;
            }
            return failedCount;
        }

        private void noteFailed(int line) {
            if (failedCount < 0 || failedCount >= failedLines.length || failedCount >= failedFaults.length) return;
            failedLines[failedCount] = line;
            failedFaults[failedCount] = fault;
            failedCount++;
        }

        private boolean comesOut(Bytes script, int start, int end) {
            int first = start + 2;
            int digit = script.at(first) - '0';
            switch (script.at(start)) {
                case '=': return stage.now.latest != NO_TEXT && Pattern.fits(script, first, end, story, stage.now.latest);
                case '?': return stage.now.flag(digit) == numberAt(script, first + 2, end);
                case '@': return stage.now.room == digit;
                case '!': return stage.now.end == digit;
                case 's': return keepPoint(digit);
                case 'b': return goBack(digit);
                default: return true;
            }
        }

        private boolean saysAll(Bytes script, int start, int end) {
            int at = start;
            while (at < end) {
                int wordEnd = Grammar.lettersEnd(script, at);
                if (wordEnd <= at || stage.now.end != 0) return false;
                fault = stage.hear(story.words.find(script, at, wordEnd));
                if (fault != 0) return false;
                at = wordEnd + 1;
            }
            return true;
        }

        private static int numberAt(Bytes script, int start, int end) {
            boolean below = script.at(start) == '-';
            int number = 0;
            for (int at = below ? start + 1 : start; at < end; at++) number = number * 10 + script.at(at) - '0';
            return below ? -number : number;
        }

        private boolean keepPoint(int i) {
            if (i < 0 || i >= points.length || i >= kept.length) return false;
            points[i].become(stage.now);
            kept[i] = true;
            return true;
        }

        private boolean goBack(int i) {
            if (i < 0 || i >= points.length || i >= kept.length || !kept[i]) return false;
            stage.now.become(points[i]);
            return true;
        }
    }

    /** The latest STORM's PLAY, and the rule that it BROKE. */
    private static final class Storm {
        final Story story;
        final Stage stage;
        final Moment trial = new Moment();
        final int[] words = new int[STORM_WORDS];
        int length;
        int broke;

        Storm(Story story, Stage stage) {
            this.story = story;
            this.stage = stage;
        }

        int rage(int x, int n) {
            stage.begin();
            length = 0;
            broke = 0;
            int drawing = x;
            for (int i = 0; i < n && i < words.length && broke == 0 && stage.now.end == 0; i++) {
                drawing = Story.nextSeed(drawing);
                words[i] = Story.drawn(drawing, story.words.count);
                length = i + 1;
                int fault = stage.hear(words[i]);
                broke = ruleBroken(stage.now, fault != 0);
            }
            return broke;
        }

        private int ruleBroken(Moment now, boolean byFault) {
            if (byFault) return 1;
            if (story.textLength(now.latest) == 0) return 2;
            return now.hasFlagBelowZero() ? 3 : 0;
        }

        int shorten() {
            for (int round = 0; round < words.length; round++) {
                int gone = firstThatCanGo();
                if (gone == NONE) break;
                drop(gone);
            }
            return length;
        }

        private int firstThatCanGo() {
            for (int i = 0; i < length; i++) {
                if (breaksAlikeWithout(i)) return i;
            }
            return NONE;
        }

        /** What is left must itself be a PLAY: no rule is BROKEN before its last WORD, and there the same one. */
        private boolean breaksAlikeWithout(int gone) {
            trial.begin(story.firstSeed);
            int last = gone == length - 1 ? length - 2 : length - 1;
            for (int i = 0; i <= last && i < words.length; i++) {
                if (i == gone) continue;
                if (trial.end != 0) return false;
                int outcome = story.say(trial, words[i]);
                int broken = ruleBroken(trial, outcome < Story.NO_RULE);
                if (i == last) return broken == broke;
                if (broken != 0) return false;
            }
            return false;
        }

        private void drop(int gone) {
            for (int i = gone; i >= 0 && i < length - 1 && i < words.length - 1; i++) words[i] = words[i + 1];
            length--;
        }
    }
}
