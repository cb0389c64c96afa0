import java.lang.reflect.Field;
import java.lang.reflect.Method;
import java.lang.reflect.Modifier;
import java.nio.file.Files;
import java.nio.file.Path;
import java.util.ArrayList;
import java.util.Arrays;
import java.util.HashSet;
import java.util.List;
import java.util.NoSuchElementException;
import java.util.Random;
import java.util.Set;
import java.util.regex.Matcher;
import java.util.regex.Pattern;

/** The face and the rules of LANGUAGE.md as far as they can be seen from outside. */
public final class LanguageTest {
    private static int passed;
    private static int failed;

    private static final String FACE = "feed(int,int,int,int,int)int end(int)boolean fault(int)int text(int)int "
            + "lifter(int,int)int rule(int)int law(int,int)boolean errs(int)boolean next()int odds(int,int)int "
            + "value(int)int lift(int)int change(int,int)int home(int)int warm(int)int meet(int,long)int undo()int "
            + "sheet(int,int)int left()int wins(int,int)int mean(int)int advice(int,int)int rests(int)int "
            + "alone(int,int)int empty(int)int needs(int,int)int waits(int)int colder(int,int)int "
            + "much(int,int,int,int)int lose(int)int judge(int,int)int calls(int,int,int,int)int other(int,int)int "
            + "ready(int,int)int yields(int,int)int goods(int,int)int hopes()int kilos(int,int)int "
            + "heaviest(int,int)int idle(int,int)int image()int back()int count(int)int";

    public static void main(String[] args) throws Exception {
        theFace();
        noPrivateMethodBearsAPublicName();
        theSource();
        nothingElseIsThrown();
        System.out.println(passed + " passed, " + failed + " failed");
        if (failed > 0) {
            System.exit(1);
        }
    }

    private static void check(boolean ok, String what) {
        if (ok) {
            passed++;
        } else {
            failed++;
            System.out.println(what);
        }
    }

    private static String form(Method m) {
        List<String> types = new ArrayList<>();
        for (Class<?> c : m.getParameterTypes()) {
            types.add(c.getName());
        }
        return m.getName() + "(" + String.join(",", types) + ")" + m.getReturnType().getName();
    }

    private static void theFace() throws Exception {
        Set<String> wanted = new HashSet<>(Arrays.asList(FACE.split(" ")));
        for (Method m : ThreeLifts.class.getDeclaredMethods()) {
            if (!Modifier.isPrivate(m.getModifiers())) {
                check(wanted.remove(form(m)) && Modifier.isPublic(m.getModifiers())
                        && !Modifier.isStatic(m.getModifiers()), "not of the face: " + form(m));
            }
        }
        check(wanted.isEmpty(), "missing: " + wanted);
        Set<String> constants = new HashSet<>(Set.of("NONE", "HIDDEN"));
        for (Field f : ThreeLifts.class.getDeclaredFields()) {
            check(!Modifier.isStatic(f.getModifiers()) || Modifier.isFinal(f.getModifiers()), "static: " + f);
            if (!Modifier.isPrivate(f.getModifiers())) {
                check(constants.remove(f.getName()) && Modifier.isPublic(f.getModifiers()), "not of the face: " + f);
            }
        }
        check(constants.isEmpty(), "missing: " + constants);
        check(ThreeLifts.class.getConstructors().length == 1
                && ThreeLifts.class.getDeclaredConstructors().length == 1
                && Modifier.isFinal(ThreeLifts.class.getModifiers()), "constructor, final");
        Method lifter = ThreeLifts.class.getMethod("lifter", int.class, int.class);
        check(Arrays.equals(lifter.getExceptionTypes(), new Class<?>[] {NoSuchElementException.class}), "throws of lifter");
    }

    private static void noPrivateMethodBearsAPublicName() {
        Set<String> names = new HashSet<>();
        for (String form : FACE.split(" ")) {
            names.add(form.substring(0, form.indexOf('(')));
        }
        Class<?>[] inside = ThreeLifts.class.getDeclaredClasses();
        check(inside.length <= 11, "more than twelve classes");
        for (Class<?> c : inside) {
            check(Modifier.isStatic(c.getModifiers()), c + " is not static");
            check(c.getDeclaredFields().length - constantsOf(c) <= 20, c + " has too many fields");
            for (Method m : c.getDeclaredMethods()) {
                check(!names.contains(m.getName()), m + " bears a name of the face");
                check(m.getParameterCount() <= 7, m + " has too many parameters");
            }
        }
        check(ThreeLifts.class.getDeclaredFields().length - constantsOf(ThreeLifts.class) <= 20, "too many fields");
    }

    private static int constantsOf(Class<?> c) {
        int n = 0;
        for (Field f : c.getDeclaredFields()) {
            n += Modifier.isStatic(f.getModifiers()) ? 1 : 0;
        }
        return n;
    }

    private static void theSource() throws Exception {
        String source = Files.readString(Path.of("src/main/java/ThreeLifts.java"));
        String bare = source.replaceAll("(?s)/\\*.*?\\*/", "").replaceAll("//[^\n]*", "").replaceAll("\"[^\"\n]*\"", "\"\"");
        check(source.chars().allMatch(c -> c == '\n' || c >= 32 && c < 127), "signs beyond ASCII");
        for (String word : List.of("package", "try", "catch", "finally", "synchronized", "assert", "->", "::",
                "double", "float", "Object", "volatile", "native", "Exact", "System.out", "nanoTime", "Random",
                "hashCode", "toString", "instanceof", "static {")) {
            String pattern = word.matches("\\w+") ? "\\b" + word + "\\b" : Pattern.quote(word);
            check(!Pattern.compile(pattern).matcher(bare).find(), "the source holds " + word);
        }
        Matcher imports = Pattern.compile("import ([\\w.]+);").matcher(bare);
        while (imports.find()) {
            check(Set.of("java.util.Arrays", "java.util.NoSuchElementException").contains(imports.group(1)), imports.group());
        }
        Matcher loops = Pattern.compile("\\b(while|do)\\b").matcher(bare);
        check(!loops.find(), "a loop without a counter");
        int begun = 0;
        int line = 0;
        for (String row : source.split("\n")) {
            line++;
            if (row.matches("    (    )?(?! )[^;=]*\\) (throws \\w+ )?\\{") && !row.contains("class ")) {
                begun = line;
            }
            if (row.matches("    (    )?\\}") && begun > 0) {
                check(line - begun < 60, "a long method ends in line " + line);
                begun = 0;
            }
        }
    }

    private static final int[] ODD = {Integer.MIN_VALUE, -2000000, -10, -2, -1, 0, 1, 2, 3, 5, 6, 7, 8, 10, 36, 37, 40,
        41, 95, 96, 99, 100, 210, 240, 241, 3210, 1000000, Integer.MAX_VALUE};

    /** Every call, with every sort of number, in many states: NoSuchElementException of lifter alone. */
    private static void nothingElseIsThrown() throws Exception {
        List<Method> calls = new ArrayList<>();
        for (Method m : ThreeLifts.class.getMethods()) {
            if (m.getDeclaringClass() == ThreeLifts.class) {
                calls.add(m);
            }
        }
        calls.sort((a, b) -> a.getName().compareTo(b.getName()));
        Random random = new Random(7);
        Texts texts = new Texts(random);
        for (int run = 0; run < 300; run++) {
            ThreeLifts x = new ThreeLifts();
            for (int k = 0; k < 400; k++) {
                if (k % 80 == 20) {
                    Texts.tape(x, texts.hall(1 + random.nextInt(6), 1 + random.nextInt(3))).text(0);
                } else if (k % 50 == 10) {
                    Texts.tape(x, texts.law("wsdtcrkb")).text(1);
                }
                Method m = calls.get(random.nextInt(calls.size()));
                Object[] given = new Object[m.getParameterCount()];
                for (int a = 0; a < given.length; a++) {
                    int v = random.nextInt(3) > 0 ? random.nextInt(7) - 1 : ODD[random.nextInt(ODD.length)];
                    given[a] = m.getParameterTypes()[a] == long.class ? (Object) random.nextLong() : (Object) v;
                }
                callSafely(x, m, given);
            }
        }
    }

    private static void callSafely(ThreeLifts x, Method m, Object[] given) throws IllegalAccessException {
        try {
            m.invoke(x, given);
        } catch (java.lang.reflect.InvocationTargetException e) {
            Throwable t = e.getCause();
            boolean due = m.getName().equals("lifter") && t.getClass() == NoSuchElementException.class;
            if (!due) {
                check(false, m.getName() + Arrays.toString(given) + " threw " + t);
            }
        }
        passed++;
    }
}
