import java.lang.reflect.InvocationTargetException;
import java.lang.reflect.Method;
import java.lang.reflect.Modifier;
import java.util.Arrays;
import java.util.Comparator;

/** What the tests share: ways to tell a STORY to the program, and to say which answer is due. */
abstract class Telling {
    static final int NONE = -1, UNKNOWN = -2, OUTSIDE = -3, STATE = -4, FULL = -5;
    static final int MIN = Integer.MIN_VALUE, MAX = Integer.MAX_VALUE;
    /** Stands for the exception of share(), as no answer of it can be this one. */
    static final int THREW = -99;
    /** The bits 16 to 30 that are drawn, one behind the other, if the SEED (or a STORM's x) is 1. */
    static final int[] DRAWN_BY_ONE = {16838, 5758, 10113, 17515, 31051, 5627, 23010, 7419, 16212, 4086};

    private static String test = "";
    private static int answers, wrong;

    // ---- tests

    /** Runs all tests of a class, and ends the program with exit code 1 if an answer was not as due. */
    static void testAll(Class<?> type) {
        Method[] methods = type.getDeclaredMethods();
        Arrays.sort(methods, Comparator.comparing(Method::getName));
        int tests = 0;
        for (Method m : methods) {
            Promise promise = m.getAnnotation(Promise.class);
            if (promise != null) {
                tests++;
                perform(m, promise);
            } else if (looksLikeATest(m)) {
                due(m.getName() + " has a promise", "no", "yes");
            }
        }
        System.out.println(type.getSimpleName() + ": " + tests + " tests, " + answers + " answers, " + wrong + " not as due");
        if (wrong != 0 || tests == 0) System.exit(1);
    }

    private static boolean looksLikeATest(Method m) {
        return m.getParameterCount() == 0 && m.getReturnType() == void.class && !Modifier.isPrivate(m.getModifiers());
    }

    private static void perform(Method m, Promise promise) {
        test = "promise " + promise.number() + ", \"" + promise.says() + "\": ";
        try {
            m.invoke(null);
        } catch (InvocationTargetException e) {
            due(m.getName(), "threw " + e.getCause(), "no exception");
        } catch (IllegalAccessException e) {
            due(m.getName(), "cannot be called", "a test");
        }
    }

    static void due(String what, long got, long want) {
        due(what, String.valueOf(got), String.valueOf(want));
    }

    static void due(String what, String got, String want) {
        answers++;
        if (got.equals(want)) return;
        wrong++;
        System.out.println(test + what + " answered " + got + ", due is " + want);
    }

    // ---- a STORY

    /** A STORY with the SEED 1, WORDS a, b, .. and the TEXTS told. */
    static ScriptTests story(int words, String... texts) {
        ScriptTests x = new ScriptTests(1);
        for (int i = 0; i < words; i++) word(x, String.valueOf((char) ('a' + i)));
        for (String t : texts) text(x, t);
        return x;
    }

    /** A RULE for any ROOM, without a FLAG, that shows TEXT 0 and stays. */
    static int act(ScriptTests x, int word, int act, int a, int b) {
        return x.rule(-1, word, -1, 0, act, a, b, 0, -1);
    }

    /** A RULE for any ROOM, without a FLAG, that only shows a TEXT. */
    static int shows(ScriptTests x, int word, int text) {
        return x.rule(-1, word, -1, 0, 0, 0, 0, text, -1);
    }

    /** Behind it the WORD makes FLAG 7 this value, by the BOX of HOLDER 3. */
    static void flagSeven(ScriptTests x, int word, int value) {
        x.holder(3, 1, 0, value);
        act(x, word, 4, 3, 0);
    }

    // ---- THE TAPE

    static ScriptTests feed(ScriptTests x, String bytes) {
        for (int at = 0; at < bytes.length(); at += 8) {
            int n = Math.min(8, bytes.length() - at);
            long w = 0;
            for (int i = 0; i < n; i++) w = w << 8 | bytes.charAt(at + i);
            x.feed(w, n);
        }
        return x;
    }

    static int word(ScriptTests x, String bytes) {
        return feed(x, bytes).word();
    }

    static int text(ScriptTests x, String bytes) {
        return feed(x, bytes).text();
    }

    static int script(ScriptTests x, String bytes) {
        return feed(x, bytes).script();
    }

    static int replay(ScriptTests x, String bytes) {
        return feed(x, bytes).replay();
    }

    /** The place that is WRONG in a SCRIPT, or NONE. */
    static int wrongAt(String lines) {
        return placeIn(script(new ScriptTests(0), lines));
    }

    /** The place that is WRONG in a TRANSCRIPT, or NONE. */
    static int wrongInTranscript(String lines) {
        return placeIn(replay(new ScriptTests(0), lines));
    }

    private static int placeIn(int answer) {
        return answer <= -10 ? -10 - answer : NONE;
    }

    // ---- what came of it

    /** The LINES that FAIL if these are run, as "2 5", behind the last one ! and the FAULT if there was one. */
    static String failing(ScriptTests x, String lines) {
        int number = script(x, lines);
        return number < 0 ? "script() " + number : failingAgain(x, number);
    }

    static String failingAgain(ScriptTests x, int script) {
        int count = x.run(script);
        if (count < 0) return "run() " + count;
        StringBuilder out = new StringBuilder();
        for (int i = 0; i < count; i++) {
            out.append(i == 0 ? "" : " ").append(x.failed(i, 0));
            if (x.failed(i, 1) != 0) out.append('!').append(x.failed(i, 1));
        }
        return out.toString();
    }

    /** The PLAY by its WORDS' letters, as "aab". */
    static String playOf(ScriptTests x) {
        StringBuilder out = new StringBuilder();
        for (int i = 0; i < x.play(); i++) out.append((char) ('a' + x.played(i)));
        return out.toString();
    }

    /** All that state() tells. */
    static String stateOf(ScriptTests x) {
        return answersOf(0, 11, x::state);
    }

    /** All that told() tells but the bytes on THE TAPE. */
    static String toldOf(ScriptTests x) {
        return answersOf(1, 7, x::told);
    }

    private static String answersOf(int from, int to, java.util.function.IntUnaryOperator call) {
        StringBuilder out = new StringBuilder();
        for (int what = from; what <= to; what++) out.append(what == from ? "" : " ").append(call.applyAsInt(what));
        return out.toString();
    }

    /** What share() answers, or THREW. */
    static int shareOf(ScriptTests x) {
        try {
            return x.share();
        } catch (ArithmeticException e) {
            return THREW;
        }
    }

    /** An x whose STORM, of so many WORDS, begins with these letters. */
    static int stormOf(int words, String letters) {
        for (int x = 0; x < 4000000; x++) {
            if (drawnBy(x, words, letters.length()).equals(letters)) return x;
        }
        throw new IllegalStateException("no STORM begins with " + letters);
    }

    /** An x whose STORM, of so many WORDS, first has this letter at this place. */
    static int stormWithFirst(int words, char letter, int place) {
        for (int x = 0; x < 4000000; x++) {
            if (drawnBy(x, words, place + 1).indexOf(letter) == place) return x;
        }
        throw new IllegalStateException("no STORM has " + letter + " first at " + place);
    }

    private static String drawnBy(int x, int words, int n) {
        StringBuilder out = new StringBuilder();
        int drawing = x;
        for (int i = 0; i < n; i++) {
            drawing = drawing * 1103515245 + 12345;
            out.append((char) ('a' + (drawing >> 16 & 0x7fff) % words));
        }
        return out.toString();
    }
}
