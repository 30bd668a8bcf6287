import java.io.IOException;
import java.lang.reflect.Constructor;
import java.lang.reflect.Field;
import java.lang.reflect.Method;
import java.lang.reflect.Modifier;
import java.nio.file.Files;
import java.nio.file.Path;
import java.util.Arrays;
import java.util.Set;
import java.util.TreeSet;
import java.util.regex.Matcher;
import java.util.regex.Pattern;

/** The document's face, and those rules of LANGUAGE.md that can be seen by looking; no call throws, whatever it is given. */
public final class RulesTest {
    private static final Set<String> FACE = new TreeSet<>(Arrays.asList(
        "type(int)", "clear()", "readings()", "adds(int,int)", "misses(int)", "strikes(int)", "promises(int)", "delays(int)",
        "undo()", "reading(int,int)", "apart(int,int,int)", "why(int,int)", "strip(int,int,int)", "told(int,int,int)",
        "sees(int,int)", "forget()", "unseen(int)", "ask()", "keep(int)", "back(int)", "count(int)"));
    private static int wrong = 0;

    private static void must(boolean so, String what) {
        if (so) return;
        wrong++;
        System.out.println("not so: " + what);
    }

    private static String signature(Method m) {
        StringBuilder b = new StringBuilder(m.getName()).append('(');
        for (int k = 0; k < m.getParameterCount(); k++) b.append(k == 0 ? "" : ",").append(m.getParameterTypes()[k].getName());
        return b.append(')').toString();
    }

    private static void face() {
        Class<ThinReadings> c = ThinReadings.class;
        must(Modifier.isPublic(c.getModifiers()) && Modifier.isFinal(c.getModifiers()), "the class is public and final");
        Set<String> names = new TreeSet<>();
        for (String s : FACE) names.add(s.substring(0, s.indexOf('(')));
        Set<String> found = new TreeSet<>();
        for (Method m : c.getDeclaredMethods()) {
            if (m.isSynthetic()) continue;
            if (Modifier.isPublic(m.getModifiers())) {
                found.add(signature(m));
                must(m.getReturnType() == int.class, signature(m) + " answers an int");
                must(!Modifier.isStatic(m.getModifiers()), signature(m) + " is not static");
            } else {
                must(Modifier.isPrivate(m.getModifiers()), m + " is private");
                must(!names.contains(m.getName()), m + " bears another name than those of the face");
            }
        }
        must(found.equals(FACE), "the face is as told: " + found);
        Set<String> constants = new TreeSet<>();
        for (Field f : c.getDeclaredFields()) {
            if (Modifier.isPublic(f.getModifiers())) constants.add(f.getName());
            else must(Modifier.isPrivate(f.getModifiers()), f + " is private");
        }
        must(constants.equals(new TreeSet<>(Arrays.asList("BAD", "STATE", "FULL", "NONE"))), "the constants are as told");
        Constructor<?>[] makers = c.getDeclaredConstructors();
        must(makers.length == 1 && Modifier.isPublic(makers[0].getModifiers()) && makers[0].getParameterCount() == 0, "one public constructor");
        inside(c, names);
    }

    private static void inside(Class<?> c, Set<String> names) {
        must(c.getDeclaredClasses().length <= 11, "some twelve classes at most");
        for (Class<?> in : c.getDeclaredClasses()) {
            must(Modifier.isStatic(in.getModifiers()), in + " is static");
            int fields = 0;
            for (Field f : in.getDeclaredFields()) {
                if (!Modifier.isStatic(f.getModifiers())) fields++;
                else must(Modifier.isFinal(f.getModifiers()), f + " is final");
            }
            must(fields <= 20, in + " has twenty fields at most");
            for (Method m : in.getDeclaredMethods()) {
                must(m.getParameterCount() <= 7, m + " takes seven parameters at most");
                must(!names.contains(m.getName()), m + " bears another name than those of the face");
            }
        }
    }

    private static void words() throws IOException {
        String source = Files.readString(Path.of("src/main/java/ThinReadings.java"));
        for (char c : source.toCharArray()) must(c < 128, "the source has plain signs alone");
        String bare = source.replaceAll("(?s)/\\*.*?\\*/", " ").replaceAll("//[^\n]*", " ");
        String[] none = { "throw", "throws", "try", "catch", "synchronized", "assert", "import", "package", "new Object", "protected", "native", "volatile", "goto" };
        for (String word : none) must(!Pattern.compile("\\b" + word + "\\b").matcher(bare).find(), "no " + word);
        must(!bare.contains("->") && !bare.contains("::"), "no lambda, no method reference");
        must(!bare.contains("\""), "no texts");
        must(!Pattern.compile("\\bstatic\\s*\\{").matcher(bare).find(), "no static block");
        Matcher calls = Pattern.compile("\\b(System|Arrays|Math|Integer|Long|Thread|Runtime)\\s*\\.\\s*(\\w+)").matcher(bare);
        Set<String> allowed = new TreeSet<>(Arrays.asList("Math.min", "Math.max", "Math.abs", "Integer.bitCount"));
        while (calls.find()) must(allowed.contains(calls.group(1) + "." + calls.group(2)), calls.group() + " is of the library that is listed");
    }

    private static void anyNumbers() throws ReflectiveOperationException {
        int[] numbers = { Integer.MIN_VALUE, -196, -15, -14, -10, -9, -3, -2, -1, 0, 1, 2, 5, 6, 13, 14, 15, 31, 32, 99, 100, 999, 1000, Integer.MAX_VALUE };
        for (Method m : ThinReadings.class.getMethods()) {
            if (m.getDeclaringClass() != ThinReadings.class) continue;
            for (int state = 0; state < 4; state++) {
                ThinReadings x = inState(state);
                for (int a : numbers) for (int b : numbers) for (int c : numbers) {
                    if (m.getParameterCount() < 3 && c != 0 || m.getParameterCount() < 2 && b != 0) continue;
                    Object[] given = m.getParameterCount() == 0 ? new Object[0] : m.getParameterCount() == 1 ? new Object[] { a }
                        : m.getParameterCount() == 2 ? new Object[] { a, b } : new Object[] { a, b, c };
                    try {
                        m.invoke(x, given);
                    } catch (java.lang.reflect.InvocationTargetException e) {
                        must(false, m.getName() + Arrays.toString(given) + " does not throw: " + e.getCause());
                    }
                }
            }
        }
    }

    private static ThinReadings inState(int state) {
        ThinReadings x = new ThinReadings();
        for (int k = 0; k < 14 && state > 0; k++) {
            if (state == 2 && k % 4 == 3 || state == 3) x.misses(k * 71);
            else x.adds(k * 71, k * 389 % 1000);
        }
        if (state == 1) x.sees(13, 1);
        x.keep(1);
        return x;
    }

    public static void main(String[] args) throws IOException, ReflectiveOperationException {
        face();
        words();
        anyNumbers();
        System.out.println(wrong == 0 ? "the rules are kept" : wrong + " rules are not kept");
        if (wrong != 0) System.exit(1);
    }
}
