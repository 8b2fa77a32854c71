import java.util.ArrayList;
import java.util.Arrays;
import java.util.List;
import java.util.Random;
import java.util.regex.Matcher;
import java.util.regex.Pattern;

/**
 * Random calls, each answer against a second model of the document by other means: regular expressions for what may stand,
 * the Java machine's own exceptions for the FAULTS, texts and lists for all that is kept.
 */
public final class ModelTest {
    private static final int UNKNOWN = -2, OUTSIDE = -3, STATE = -4, FULL = -5, THREW = -999;

    private static final class Now {
        int room, seed, end, latest = -2;
        int[] flags = new int[8];

        Now copy() {
            Now n = new Now();
            n.room = room;
            n.seed = seed;
            n.end = end;
            n.latest = latest;
            n.flags = flags.clone();
            return n;
        }
    }

    private static final class Model {
        static final Pattern LINE = Pattern.compile("> [a-z]{1,6}(?: [a-z]{1,6})*|= (?:\\\\[ -~]|\\[[ -\\\\^-~]+\\]|[ -Z\\]-~])*"
            + "|\\? [0-7] -?[0-9]{1,6}|@ [0-7]|! [1-9]|[sb] [0-3]|# [^\n]*");
        static final Pattern PART = Pattern.compile("\\\\.|\\[[^\\]]+\\]|.");
        static final Pattern WORD_LINE = Pattern.compile("> [a-z]{1,6}");
        static final Pattern TEXT_LINE = Pattern.compile("[ -~]*");

        String tape = "";
        List<String> words = new ArrayList<>(), texts = new ArrayList<>(), scripts = new ArrayList<>();
        List<int[]> rules = new ArrayList<>();
        Object[] holders = new Object[4];
        int seed;
        Now now = new Now();
        int[] done = new int[30], shown = new int[25];
        int said, fault;
        List<int[]> failed = new ArrayList<>();
        List<Integer> play = new ArrayList<>();
        int broke;

        Model(int seed) {
            this.seed = seed;
            now.seed = seed;
        }

        String used() {
            String t = tape;
            tape = "";
            return t;
        }

        int feed(long w, int n) {
            if (n < 1 || n > 8) return OUTSIDE;
            if (tape.length() + n > 600) return FULL;
            String more = "";
            for (int i = 0; i < n; i++) {
                more = (char) (w & 255) + more;
                w >>= 8;
            }
            tape += more;
            return tape.length();
        }

        int word() {
            String t = used();
            if (!t.matches("[a-z]{1,6}")) return OUTSIDE;
            if (words.contains(t)) return words.indexOf(t);
            if (words.size() == 16) return FULL;
            words.add(t);
            return words.size() - 1;
        }

        int text() {
            String t = used();
            if (!t.matches("[ -~]{0,20}")) return OUTSIDE;
            if (texts.size() == 24) return FULL;
            texts.add(t);
            return texts.size() - 1;
        }

        int rule(int... r) {
            int room = r[0], flag = r[2], act = r[4], a = r[5], b = r[6], to = r[8];
            if (r[1] < 0 || r[1] >= words.size() || r[7] < 0 || r[7] >= texts.size()) return UNKNOWN;
            if (room < -1 || room > 7 || to < -1 || to > 7 || flag < -1 || flag > 7 || act < 0 || act > 6) return OUTSIDE;
            boolean flagA = a >= 0 && a <= 7, flagB = b >= 0 && b <= 7, holderA = a >= 0 && a <= 3;
            boolean[] right = {true, flagA && Math.abs(b) <= 1000 && b != Integer.MIN_VALUE, flagA && flagB, holderA && flagB, holderA,
                flagA && b >= 1 && b <= 100, a >= 1 && a <= 9};
            if (!right[act]) return OUTSIDE;
            if (rules.size() == 30) return FULL;
            rules.add(r);
            return rules.size() - 1;
        }

        int holder(int h, int sort, int n, int v) {
            if (h < 0 || h > 3) return UNKNOWN;
            if (sort < 0 || sort > 2 || sort == 2 && (n < 1 || n > 4)) return OUTSIDE;
            if (sort == 0) holders[h] = null;
            if (sort == 1) holders[h] = v;
            if (sort == 2) {
                int[] row = new int[n];
                for (int i = 0; i < n; i++) row[i] = v + i;
                holders[h] = row;
            }
            return 1;
        }

        int seed(int s) {
            int was = seed;
            seed = s;
            return was;
        }

        static int next(int s) {
            return (int) (s * 1103515245L + 12345L);
        }

        static int bits(int s) {
            return (int) ((s & 0xffffffffL) / 65536 % 32768);
        }

        /** -1 less the fault, or the rule done plus 1, or 0 for none. */
        int say(Now at, String word) {
            for (int i = 0; i < rules.size(); i++) {
                int[] r = rules.get(i);
                if (!words.get(r[1]).equals(word) || r[0] >= 0 && r[0] != at.room || r[2] >= 0 && at.flags[r[2]] < r[3]) continue;
                try {
                    act(at, r[4], r[5], r[6]);
                } catch (NullPointerException e) {
                    return -2;
                } catch (ClassCastException e) {
                    return -3;
                } catch (ArrayIndexOutOfBoundsException e) {
                    return -4;
                } catch (ArithmeticException e) {
                    return -5;
                }
                if (r[8] >= 0) at.room = r[8];
                at.latest = r[7];
                return i + 1;
            }
            at.latest = -1;
            return 0;
        }

        void act(Now at, int act, int a, int b) {
            int[] f = at.flags;
            if (act == 1) f[a] += b;
            if (act == 2) f[a] = 12 / f[b];
            if (act == 3) f[7] = rowOf(a)[f[b]];
            if (act == 4) f[7] = (Integer) holders[a];
            if (act == 5) {
                at.seed = next(at.seed);
                f[a] = bits(at.seed) % b;
            }
            if (act == 6) at.end = a;
        }

        int[] rowOf(int a) {
            if (holders[a] == null) throw new NullPointerException();
            return (int[]) holders[a];
        }

        void begin() {
            now = new Now();
            now.seed = seed;
        }

        int hear(String word) {
            int outcome = say(now, word);
            said++;
            if (outcome < 0) return fault = -1 - outcome;
            if (outcome > 0) done[outcome - 1]++;
            shown[now.latest + 1]++;
            return 0;
        }

        String textOf(int t) {
            return t == -1 ? "?" : texts.get(t);
        }

        static int firstWrong(Pattern form, String line) {
            for (int n = 1; n <= line.length(); n++) {
                Matcher m = form.matcher(line.substring(0, n));
                if (!m.matches() && !m.hitEnd()) return n - 1;
            }
            return form.matcher(line).matches() ? -1 : line.length();
        }

        static String[] lines(String t) {
            String[] all = t.split("\n", -1);
            return all[all.length - 1].isEmpty() ? Arrays.copyOf(all, all.length - 1) : all;
        }

        int script() {
            String t = used();
            if (scripts.size() == 10) return FULL;
            int at = 0, number = 0;
            for (String line : lines(t)) {
                number++;
                if (!line.isEmpty()) {
                    int wrong = number > 40 ? 0 : firstWrong(LINE, line);
                    if (wrong >= 0) return -10 - (at + wrong);
                }
                at += line.length() + 1;
            }
            scripts.add(t);
            return scripts.size() - 1;
        }

        int run(int script) {
            if (script < 0 || script >= scripts.size()) return UNKNOWN;
            begin();
            failed.clear();
            Now[] points = new Now[4];
            String[] lines = lines(scripts.get(script));
            for (int i = 0; i < lines.length; i++) {
                if (lines[i].isEmpty()) continue;
                int outcome = perform(lines[i].charAt(0), lines[i].substring(2), points);
                if (outcome >= 0) failed.add(new int[] {i + 1, outcome});
                if (outcome > 0) break;
            }
            return failed.size();
        }

        /** -1 if it comes out, else 0 or the fault. */
        int perform(char kind, String rest, Now[] points) {
            if (kind == '>') {
                for (String w : rest.split(" ")) {
                    if (now.end != 0) return 0;
                    int f = hear(w);
                    if (f != 0) return f;
                }
                return -1;
            }
            if (kind == '#') return -1;
            if (kind == '=') return now.latest != -2 && regex(rest).matcher(textOf(now.latest)).matches() ? -1 : 0;
            int digit = rest.charAt(0) - '0';
            if (kind == '?') return now.flags[digit] == Integer.parseInt(rest.substring(2)) ? -1 : 0;
            if (kind == '@') return now.room == digit ? -1 : 0;
            if (kind == '!') return now.end == digit ? -1 : 0;
            if (kind == 's') points[digit] = now.copy();
            if (points[digit] == null) return 0;
            now = points[digit].copy();
            return -1;
        }

        static Pattern regex(String pattern) {
            StringBuilder out = new StringBuilder();
            Matcher m = PART.matcher(pattern);
            while (m.find()) {
                String part = m.group();
                if (part.equals(".")) out.append('.');
                else if (part.equals("*")) out.append(".*");
                else if (part.length() > 1 && part.charAt(0) == '[') {
                    out.append("(?:");
                    for (int i = 1; i < part.length() - 1; i++) out.append(i > 1 ? "|" : "").append(Pattern.quote(part.substring(i, i + 1)));
                    out.append(')');
                } else out.append(Pattern.quote(part.substring(part.length() - 1)));
            }
            return Pattern.compile(out.toString(), Pattern.DOTALL);
        }

        int failed(int i, int what) {
            if (i < 0 || i >= failed.size()) return UNKNOWN;
            return what < 0 || what > 1 ? OUTSIDE : failed.get(i)[what];
        }

        int replay() {
            String t = used();
            String[] lines = lines(t);
            int at = 0;
            for (int i = 0; i < lines.length; i++) {
                int wrong = i >= 40 ? 0 : firstWrong(i % 2 == 0 ? WORD_LINE : TEXT_LINE, lines[i]);
                if (wrong >= 0) return -10 - (at + wrong);
                at += lines[i].length() + 1;
            }
            if (lines.length % 2 == 1) return -10 - t.length();
            begin();
            for (int i = 0; i < lines.length; i += 2) {
                String due = ".";
                if (now.end == 0) {
                    int f = hear(lines[i].substring(2));
                    due = f != 0 ? "!" + f : textOf(now.latest);
                }
                if (!due.equals(lines[i + 1])) return i + 2;
            }
            return 0;
        }

        int broken(Now at, int outcome) {
            if (outcome < 0) return 1;
            if (textOf(at.latest).isEmpty()) return 2;
            return Arrays.stream(at.flags).min().getAsInt() < 0 ? 3 : 0;
        }

        int storm(int x, int n) {
            if (n < 0 || n > 60) return OUTSIDE;
            if (words.isEmpty()) return STATE;
            begin();
            play.clear();
            broke = 0;
            while (play.size() < n && broke == 0 && now.end == 0) {
                x = next(x);
                int w = bits(x) % words.size();
                play.add(w);
                broke = broken(now, -hear(words.get(w)));
            }
            return broke;
        }

        int played(int i) {
            return i < 0 || i >= play.size() ? UNKNOWN : play.get(i);
        }

        int shrink() {
            if (broke == 0) return STATE;
            for (int i = 0; i < play.size(); i++) {
                List<Integer> rest = new ArrayList<>(play);
                rest.remove(i);
                if (breaksAtLast(rest)) {
                    play = rest;
                    i = -1;
                }
            }
            return play.size();
        }

        boolean breaksAtLast(List<Integer> rest) {
            Now at = new Now();
            at.seed = seed;
            for (int i = 0; i < rest.size(); i++) {
                if (at.end != 0) return false;
                int b = broken(at, say(at, words.get(rest.get(i))));
                if (b != 0) return b == broke && i == rest.size() - 1;
            }
            return false;
        }

        int state(int what) {
            if (what < 0 || what > 11) return OUTSIDE;
            return what >= 4 ? now.flags[what - 4] : new int[] {now.room, now.end, now.seed, now.latest}[what];
        }

        int done(int rule) {
            return rule < 0 || rule >= rules.size() ? UNKNOWN : done[rule];
        }

        int shown(int text) {
            return text < -1 || text >= texts.size() ? UNKNOWN : shown[text + 1];
        }

        int never(int i) {
            List<Integer> left = new ArrayList<>();
            for (int r = 0; r < rules.size(); r++) if (done[r] == 0) left.add(r);
            return i >= 0 && i < left.size() ? left.get(i) : -1;
        }

        int share() {
            int total = 0, count = 0;
            for (int d : done) {
                total += d;
                if (d > 0) count++;
            }
            return count == 0 ? THREW : total / count;
        }

        int told(int what) {
            if (what < 0 || what > 7) return OUTSIDE;
            return new int[] {tape.length(), words.size(), texts.size(), rules.size(), scripts.size(), failed.size(), fault, said}[what];
        }
    }

    // ---- random calls on both

    private final Random r;
    private final ScriptTests x;
    private final Model m;
    private final long number;
    private final int[] answers = new int[10];
    private int calls, wrong;

    private ModelTest(long number) {
        this.number = number;
        r = new Random(number);
        int seed = r.nextInt();
        x = new ScriptTests(seed);
        m = new Model(seed);
    }

    private int same(String call, int got, int want) {
        calls++;
        if (got != want && wrong++ < 3) {
            System.out.println("run " + number + ", call " + calls + ": " + call + " answered " + got + ", the model " + want);
        }
        return want;
    }

    private void feed(String bytes) {
        for (int at = 0; at < bytes.length(); at += 8) {
            long w = r.nextBoolean() ? 0 : 0x55;
            int n = Math.min(8, bytes.length() - at);
            for (int i = 0; i < n; i++) w = w << 8 | bytes.charAt(at + i);
            same("feed(" + w + ", " + n + ")", x.feed(w, n), m.feed(w, n));
        }
    }

    private String pick(String... of) {
        return of[r.nextInt(of.length)];
    }

    private int num(int below) {
        return r.nextInt(25) == 0 ? r.nextInt(12) - 4 + (r.nextBoolean() ? below : 0) : r.nextInt(below);
    }

    private String name() {
        return pick("a", "b", "c", "go", "take", "x", "lookup");
    }

    private String signs() {
        StringBuilder out = new StringBuilder();
        for (int n = r.nextInt(5); n > 0; n--) out.append(pick("a", "b", "k", "[", "]", "\\", ".", "*", "?", "!4", "Ok", " "));
        return out.toString();
    }

    private String likely() {
        return m.texts.isEmpty() || r.nextInt(3) == 0 ? signs() : m.texts.get(r.nextInt(m.texts.size()));
    }

    private String pattern() {
        String t = likely();
        StringBuilder out = new StringBuilder();
        for (int i = 0; i < t.length(); i++) {
            char c = t.charAt(i);
            int way = r.nextInt(8);
            if (way == 0) out.append('.');
            else if (way == 1) out.append('*');
            else if (way == 2 && c != ']') out.append("[x").append(c).append("]");
            else if (way == 3 || "[\\.*".indexOf(c) >= 0 && r.nextInt(6) > 0) out.append('\\').append(c);
            else out.append(c);
        }
        return out + pick("", "", "", "*", "[", "x");
    }

    private String line() {
        switch (r.nextInt(11)) {
            case 0: case 1: case 2: return "> " + name() + (r.nextBoolean() ? " " + name() : "") + (r.nextBoolean() ? " " + name() : "");
            case 3: case 4: return "= " + pattern();
            case 5: return "? " + r.nextInt(8) + " " + (r.nextInt(3) == 0 ? r.nextInt(2000000) - 500000 : r.nextInt(6) - 2);
            case 6: return "@ " + r.nextInt(r.nextInt(15) == 0 ? 10 : 8);
            case 7: return "! " + (1 + r.nextInt(3));
            case 8: return pick("s ", "b ") + r.nextInt(r.nextInt(15) == 0 ? 6 : 4);
            case 9: return "# " + signs();
            default: return "";
        }
    }

    private String lines() {
        StringBuilder out = new StringBuilder();
        int n = r.nextInt(12) == 0 ? 36 + r.nextInt(8) : r.nextInt(9);
        for (int i = 0; i < n; i++) out.append(n > 20 && r.nextInt(3) > 0 ? "" : line()).append('\n');
        return spoilt(out.append(r.nextBoolean() ? line() : "").toString());
    }

    private String transcript() {
        StringBuilder out = new StringBuilder();
        int n = r.nextInt(12) == 0 ? 18 + r.nextInt(4) : r.nextInt(5);
        for (int i = 0; i < n; i++) out.append("> ").append(name()).append('\n').append(reply()).append('\n');
        return spoilt(out.toString());
    }

    private String reply() {
        return r.nextInt(4) == 0 ? pick("?", ".", "!1", "!2", "!3", "!4") : likely();
    }

    /** A transcript that is right: the model says what is shown. */
    private String honest() {
        StringBuilder out = new StringBuilder();
        Now at = new Now();
        at.seed = m.seed;
        for (int n = 1 + r.nextInt(8); n > 0; n--) {
            String w = name();
            out.append("> ").append(w).append('\n').append(dueLine(at, w)).append('\n');
        }
        return out.toString();
    }

    private String dueLine(Now at, String word) {
        if (at.end != 0) return ".";
        int outcome = m.say(at, word);
        return outcome < 0 ? "!" + (-1 - outcome) : m.textOf(at.latest);
    }

    private String spoilt(String s) {
        if (r.nextInt(4) > 0 || s.isEmpty()) return s;
        int at = r.nextInt(s.length());
        String put = pick("", "x", " ", "\n", "]", "[", "\\", "\u007f", "\u00e9", "7", "-");
        return s.substring(0, at) + put + s.substring(at + r.nextInt(2));
    }

    private void rule() {
        int word = num(Math.max(1, m.words.size())), text = num(Math.max(1, m.texts.size()));
        int[] q = {num(4) - 1, word, num(5) - 1, r.nextInt(5) - 1, num(7), num(4), num(6), text, num(5) - 1};
        if (q[4] == 1) q[6] = r.nextInt(30) == 0 ? r.nextInt(2100) - 1050 : r.nextInt(5) - 1;
        if (q[4] == 6 && r.nextInt(3) > 0) q[4] = 5;
        same("rule" + Arrays.toString(q), x.rule(q[0], q[1], q[2], q[3], q[4], q[5], q[6], q[7], q[8]), m.rule(q));
    }

    private int share() {
        try {
            return x.share();
        } catch (ArithmeticException e) {
            return THREW;
        }
    }

    private void word(String s) {
        feed(s);
        same("word <" + s + ">", x.word(), m.word());
    }

    private void text(String s) {
        feed(s);
        same("text <" + s + ">", x.text(), m.text());
    }

    private void tell() {
        int sort = r.nextInt(4), h = num(4), n = num(5), v = r.nextInt(7) - 2, s = r.nextInt(50);
        switch (r.nextInt(8)) {
            case 0: word(spoilt(name())); break;
            case 1: text(spoilt(signs())); break;
            case 2: same("holder", x.holder(h, sort, n, v), m.holder(h, sort, n, v)); break;
            case 3: same("seed", x.seed(s), m.seed(s)); break;
            default: rule();
        }
    }

    private void play() {
        int what = r.nextInt(8), n = r.nextInt(9) == 0 ? num(61) : r.nextInt(61), s = r.nextInt();
        if (what < 2) {
            String t = lines();
            feed(t);
            int number = same("script <" + t + ">", x.script(), m.script());
            if (number >= 0) same("run <" + t + ">", x.run(number), m.run(number));
            answers[number >= 0 ? 0 : 1]++;
        } else if (what == 2) {
            int number = num(10);
            same("run", x.run(number), m.run(number));
        } else if (what < 5) {
            String t = r.nextBoolean() ? honest() : transcript();
            feed(t);
            int a = same("replay <" + t + ">", x.replay(), m.replay());
            answers[a == 0 ? 2 : a > 0 ? 3 : 4]++;
        } else {
            int a = same("storm(" + s + ", " + n + ")", x.storm(s, n), m.storm(s, n));
            if (a >= 0) answers[5 + a]++;
            if (r.nextBoolean()) {
                int was = m.play.size();
                int b = same("shrink", x.shrink(), m.shrink());
                if (b > 1 && b < was) answers[9]++;
            }
        }
    }

    private void look() {
        for (int i = -1; i <= 12; i++) same("state " + i, x.state(i), m.state(i));
        for (int i = -1; i <= 8; i++) same("told " + i, x.told(i), m.told(i));
    }

    private void lookAtAll() {
        for (int i = -1; i <= 30; i++) same("done " + i, x.done(i), m.done(i));
        for (int i = -2; i <= 24; i++) same("shown " + i, x.shown(i), m.shown(i));
        for (int i = -1; i <= 30; i++) same("never " + i, x.never(i), m.never(i));
        for (int i = -1; i <= 60; i++) same("played " + i, x.played(i), m.played(i));
        for (int i = -1; i <= 6; i++) same("failed " + i, x.failed(i, i & 1), m.failed(i, i & 1));
        for (int i = -1; i <= 3; i++) same("failed 0 " + i, x.failed(0, i), m.failed(0, i));
        same("play", x.play(), m.play.size());
        same("share", share(), m.share());
    }

    private int go(int[] totals) {
        for (int i = 0; i < 2; i++) word(name());
        text(signs());
        for (int i = r.nextInt(30); i > 0; i--) tell();
        while (calls < 500) {
            if (r.nextInt(4) == 0) tell();
            else play();
            if (r.nextInt(3) == 0) look();
            if (r.nextInt(12) == 0) lookAtAll();
        }
        lookAtAll();
        for (int i = 0; i < totals.length; i++) totals[i] += answers[i];
        return wrong;
    }

    public static void main(String[] args) {
        int[] totals = new int[10];
        int wrong = 0;
        for (long number = 0; number < 4000 && wrong < 20; number++) wrong += new ModelTest(number).go(totals);
        String[] kinds = {"scripts run", "scripts wrong", "replays alike", "replays unlike", "replays wrong", "storms without a break",
            "breaks of rule 1", "of rule 2", "of rule 3", "plays shrunk to more than one word"};
        for (int i = 0; i < kinds.length; i++) {
            // A kind that never came up would leave the comparison blind there.
            if (totals[i] < 100) {
                wrong++;
                System.out.println("too few: " + kinds[i] + ", " + totals[i]);
            }
        }
        System.out.println(wrong == 0 ? "all answers are the model's" : wrong + " answers are not the model's");
        if (wrong != 0) System.exit(1);
    }
}
