import java.lang.reflect.Constructor;
import java.lang.reflect.Field;
import java.lang.reflect.Method;
import java.lang.reflect.Modifier;
import java.util.Arrays;
import java.util.Comparator;
import java.util.Random;
import java.util.Set;
import java.util.TreeSet;

/** The public face is the document's and no more; no call throws but share(), whatever it is given. */
public final class FaceTest {
    private static final Set<String> METHODS = Set.of(
        "int feed(long,int)", "int word()", "int text()", "int rule(int,int,int,int,int,int,int,int,int)",
        "int holder(int,int,int,int)", "int seed(int)", "int script()", "int run(int)", "int failed(int,int)", "int replay()",
        "int storm(int,int)", "int play()", "int played(int)", "int shrink()", "int state(int)", "int done(int)",
        "int shown(int)", "int never(int)", "int share()", "int told(int)");
    private static final int[] EDGES = {
        Integer.MIN_VALUE, Integer.MIN_VALUE + 1, -1001, -100, -11, -10, -6, -5, -4, -3, -2, -1, 0, 1, 2, 3, 4, 5, 6, 7, 8, 9,
        10, 11, 12, 24, 25, 30, 31, 40, 60, 61, 100, 101, 1000, 1001, Integer.MAX_VALUE - 1, Integer.MAX_VALUE,
    };
    private static int wrong = 0;

    private static void hold(String what, boolean holds) {
        if (holds) return;
        wrong++;
        System.out.println("does not hold: " + what);
    }

    private static void face() throws Exception {
        Class<ScriptTests> type = ScriptTests.class;
        hold("public and final", Modifier.isPublic(type.getModifiers()) && Modifier.isFinal(type.getModifiers()));
        Set<String> methods = new TreeSet<>();
        Set<String> publicNames = new TreeSet<>();
        for (Method m : type.getDeclaredMethods()) {
            if (Modifier.isPrivate(m.getModifiers())) continue;
            hold(m + " is public", Modifier.isPublic(m.getModifiers()) && !Modifier.isStatic(m.getModifiers()));
            methods.add(signature(m));
            publicNames.add(m.getName());
        }
        hold("the methods " + methods, methods.equals(METHODS));
        namesApart(type, publicNames);
        for (Class<?> inside : type.getDeclaredClasses()) {
            hold(inside + " is static", Modifier.isStatic(inside.getModifiers()) && !Modifier.isPublic(inside.getModifiers()));
            namesApart(inside, publicNames);
        }
        Constructor<?>[] makers = type.getDeclaredConstructors();
        hold("one constructor", makers.length == 1 && Modifier.isPublic(makers[0].getModifiers()));
        hold("of a seed", type.getConstructor(int.class) != null);
        Class<?>[] thrown = type.getMethod("share").getExceptionTypes();
        hold("share tells what it throws", thrown.length == 1 && thrown[0] == ArithmeticException.class);
        int constants = 0;
        for (Field f : type.getDeclaredFields()) {
            if (Modifier.isPublic(f.getModifiers())) constants++;
            else hold(f + " is private", Modifier.isPrivate(f.getModifiers()));
        }
        hold("five constants", constants == 5);
    }

    private static void namesApart(Class<?> type, Set<String> publicNames) {
        for (Method m : type.getDeclaredMethods()) {
            if (Modifier.isPublic(m.getModifiers())) continue;
            hold(m + " has a name of its own", !publicNames.contains(m.getName()));
            hold(m + " has at most seven parameters", m.getParameterCount() <= 7);
        }
    }

    private static String signature(Method m) {
        StringBuilder out = new StringBuilder(m.getReturnType().getSimpleName()).append(' ').append(m.getName()).append('(');
        for (int i = 0; i < m.getParameterCount(); i++) {
            out.append(i == 0 ? "" : ",").append(m.getParameterTypes()[i].getSimpleName());
        }
        return out.append(')').toString();
    }

    private static int any(Random r) {
        int sort = r.nextInt(10);
        if (sort < 6) return r.nextInt(8);
        return sort < 9 ? EDGES[r.nextInt(EDGES.length)] : r.nextInt();
    }

    private static void calls(long seed, Method[] methods) {
        Random r = new Random(seed);
        ScriptTests x = new ScriptTests(any(r));
        for (int call = 0; call < 512; call++) {
            Method m = methods[r.nextInt(methods.length)];
            Object[] given = new Object[m.getParameterCount()];
            for (int i = 0; i < given.length; i++) given[i] = any(r);
            if (m.getName().equals("feed")) {
                given[0] = letters(r);
                if (r.nextInt(4) > 0) given[1] = 1 + r.nextInt(4);
            }
            try {
                m.invoke(x, given);
            } catch (Exception e) {
                boolean promised = m.getName().equals("share") && e.getCause() instanceof ArithmeticException;
                hold(m.getName() + " threw " + e.getCause() + " by seed " + seed, promised);
            }
        }
    }

    private static long letters(Random r) {
        String signs = r.nextInt(3) > 0 ? "aaab" : "> \n=[]\\*.?@!sb#01-ab";
        long w = r.nextInt(8) == 0 ? r.nextLong() : 0;
        for (int i = 0; i < 4; i++) w = w << 8 | signs.charAt(r.nextInt(signs.length()));
        return w;
    }

    public static void main(String[] args) throws Exception {
        face();
        Method[] methods = new Method[METHODS.size()];
        int count = 0;
        for (Method m : ScriptTests.class.getDeclaredMethods()) {
            if (Modifier.isPublic(m.getModifiers()) && count < methods.length) methods[count++] = m;
        }
        Arrays.sort(methods, Comparator.comparing(Method::getName));
        for (long seed = 0; seed < 2000; seed++) calls(seed, methods);
        System.out.println(wrong == 0 ? "the face is as told" : wrong + " things do not hold");
        if (wrong != 0) System.exit(1);
    }
}
