import java.io.IOException;
import java.lang.reflect.Constructor;
import java.lang.reflect.Field;
import java.lang.reflect.InvocationTargetException;
import java.lang.reflect.Method;
import java.lang.reflect.Modifier;
import java.nio.file.Files;
import java.nio.file.Path;
import java.util.ArrayList;
import java.util.Arrays;
import java.util.Comparator;
import java.util.List;
import java.util.NoSuchElementException;
import java.util.Random;
import java.util.Set;
import java.util.TreeSet;
import java.util.regex.Matcher;
import java.util.regex.Pattern;

/** The face, as the document has it; that no call throws by itself; and what of LANGUAGE.md can be read off the program. */
public final class FaceTest {
    private static final Judge judge = new Judge();

    private static final String[] FACE = {
        "int sign(int)", "boolean end(int)", "int town()", "int plan(int)", "int rule(int)", "int of(int,int) throws",
        "int chairs(int,int)", "boolean sick(int,boolean)", "int sheet(int,int,int,int)", "int quarters(int)", "int undo()",
        "int in(int)", "int asks(int)", "int queue(int)", "int day()", "int will(int,int) throws", "int longest(int,int)",
        "int gave(int,int)", "int pair()", "boolean lend(int,int,int)", "int fewest()", "int settle()", "int least(int,int)",
        "int together(int,int,int)", "int both(int,int)", "int often(int,int,int)", "boolean swap(int,int)", "int exchange(int)",
        "int delay(int,int)", "int crowd(int)", "int calm(int)", "int more(int)", "int feast(int)", "int told(int,int)",
        "int forget()", "int stolen(int)", "int even(int)", "int spares(int,int) throws", "int round()", "boolean keep(int)",
        "boolean again(int)", "int count(int)", "int row(int) throws"};

    public static void main(String[] args) throws IOException, ReflectiveOperationException {
        face();
        classes();
        roughCalls();
        language(Files.readString(Path.of(args[0])));
        judge.finish("FaceTest");
    }

    private static String signature(Method m) {
        StringBuilder all = new StringBuilder(m.getReturnType().getName()).append(' ').append(m.getName()).append('(');
        for (int k = 0; k < m.getParameterCount(); k++) {
            all.append(k == 0 ? "" : ",").append(m.getParameterTypes()[k].getName());
        }
        all.append(')');
        boolean throwsIt = m.getExceptionTypes().length == 1 && m.getExceptionTypes()[0] == NoSuchElementException.class;
        return all.append(throwsIt ? " throws" : "").toString();
    }

    private static void face() throws ReflectiveOperationException {
        Set<String> is = new TreeSet<>();
        for (Method m : OneChairShort.class.getDeclaredMethods()) {
            if (!Modifier.isPrivate(m.getModifiers())) {
                judge.due(m + " is public, and no more", m.getModifiers(), Modifier.PUBLIC);
                is.add(signature(m));
            }
        }
        judge.due("the face: " + is, is.equals(new TreeSet<>(Arrays.asList(FACE))), true);
        judge.due("final and public", OneChairShort.class.getModifiers() & ~Modifier.SYNCHRONIZED, Modifier.PUBLIC | Modifier.FINAL);
        Constructor<?>[] made = OneChairShort.class.getDeclaredConstructors();
        judge.due("one constructor", made.length, 1);
        judge.due("it is public", made[0].getModifiers(), Modifier.PUBLIC);
        for (Field f : OneChairShort.class.getDeclaredFields()) {
            boolean isNone = f.getName().equals("NONE");
            judge.due(f + " is private, but for NONE", Modifier.isPrivate(f.getModifiers()), !isNone);
            judge.due(f + ": NONE is a constant", isNone && !Modifier.isStatic(f.getModifiers()), false);
        }
        judge.due("NONE", OneChairShort.class.getField("NONE").getInt(null), -1);
    }

    private static void classes() {
        Set<String> names = new TreeSet<>();
        for (String one : FACE) {
            names.add(one.substring(one.indexOf(' ') + 1, one.indexOf('(')));
        }
        List<Class<?>> all = new ArrayList<>(Arrays.asList(OneChairShort.class.getDeclaredClasses()));
        judge.due("some twelve classes", all.size() + 1 <= 12, true);
        for (Class<?> c : all) {
            judge.due(c + " is static", Modifier.isStatic(c.getModifiers()), true);
            judge.due(c + " has none inside", c.getDeclaredClasses().length, 0);
            for (Method m : c.getDeclaredMethods()) {
                judge.due(m + " bears no name of the face", names.contains(m.getName()), false);
            }
        }
        for (Method m : OneChairShort.class.getDeclaredMethods()) {
            judge.due(m + ": no private one bears the name", Modifier.isPrivate(m.getModifiers()) && names.contains(m.getName()), false);
        }
        all.add(OneChairShort.class);
        for (Class<?> c : all) {
            int fields = 0;
            for (Field f : c.getDeclaredFields()) {
                boolean isStatic = Modifier.isStatic(f.getModifiers());
                fields += isStatic ? 0 : 1;
                judge.due(f + ": a static one is a final int", isStatic && !(Modifier.isFinal(f.getModifiers()) && f.getType() == int.class), false);
            }
            judge.due(c + " has some twenty fields", fields <= 20, true);
            for (Method m : c.getDeclaredMethods()) {
                judge.due(m + " takes at most seven", m.getParameterCount() <= 7, true);
            }
        }
    }

    /** All calls in all orders with all sorts of arguments, far beyond the 512th call. */
    private static void roughCalls() throws ReflectiveOperationException {
        List<Method> calls = new ArrayList<>();
        for (Method m : OneChairShort.class.getDeclaredMethods()) {
            if (Modifier.isPublic(m.getModifiers())) {
                calls.add(m);
            }
        }
        calls.sort(Comparator.comparing(Method::getName));
        String[] texts = {"r1;5;6!;7", "r2", "0", "0-", "q99;q99", "t*s/(a-b)", "l0>1*99;q3", "((((", "1;2;3;4;5;6;7;8"};
        int wrong = 0;
        for (int seed = 0; seed < 60; seed++) {
            Random random = new Random(seed);
            OneChairShort x = seed % 6 == 0 ? new OneChairShort() : Told.fresh("r1;r2;5;6!;7;8", "0", "01", "0", "1-");
            for (int k = 0; k < 1200; k++) {
                if (random.nextInt(8) == 0) {
                    Told.text(x, texts[random.nextInt(texts.length)]);
                }
                Method m = calls.get(random.nextInt(calls.size()));
                if (random.nextInt(3) > 0 && (m.getName().equals("together") || m.getName().equals("exchange"))) {
                    continue;
                }
                wrong += isRight(m, x, random) ? 0 : 1;
            }
        }
        judge.due("calls that threw what they may not", wrong, 0);
    }

    private static boolean isRight(Method m, OneChairShort x, Random random) throws IllegalAccessException {
        int[] some = {Integer.MIN_VALUE, Integer.MIN_VALUE + 1, -101, -2, -1, 0, 0, 1, 1, 2, 3, 4, 5, 7, 8, 9, 24, 30, 31, 76, 80, 100, 101, 200,
            201, 500, 999, 1000, Integer.MAX_VALUE - 1, Integer.MAX_VALUE};
        Object[] args = new Object[m.getParameterCount()];
        for (int k = 0; k < args.length; k++) {
            args[k] = m.getParameterTypes()[k] == boolean.class ? (Object) random.nextBoolean() : (Object) some[random.nextInt(some.length)];
        }
        try {
            m.invoke(x, args);
            return true;
        } catch (InvocationTargetException e) {
            boolean may = m.getExceptionTypes().length == 1 && e.getCause().getClass() == NoSuchElementException.class;
            if (!may) {
                System.out.println(m + Arrays.toString(args) + " threw " + e.getCause());
            }
            return may;
        }
    }

    private static void language(String source) {
        String code = source.replaceAll("(?s)/\\*.*?\\*/", "").replaceAll("//[^\n]*", "");
        String[] never = {"->", "::", "synchronized", "assert ", "finally", "catch", "try ", "instanceof", "Exact", "Object ", ".equals(", "hashCode",
            "toString", "getMessage", "System.out", "Random", "Thread", "\"", "Math.abs(Integer", "static {", " var ", "package "};
        for (String one : never) {
            judge.due("the program has no " + one, code.contains(one), false);
        }
        Matcher library = Pattern.compile("\\b(import [^;]+|(Math|System|Integer|Arrays)\\.\\w+|throw [^;]+)").matcher(code);
        Set<String> may = Set.of("import java.util.NoSuchElementException", "Math.max", "Math.min", "Math.floorMod", "System.arraycopy",
            "Integer.bitCount", "throw new NoSuchElementException()");
        while (library.find()) {
            judge.due("the program may use " + library.group(), may.contains(library.group()), true);
        }
        for (String line : code.lines().filter(one -> one.contains("new ")).toList()) {
            boolean isRow = line.matches(" +(private )?final .* = new .*;");
            judge.due("made once, with the object: " + line, isRow || line.contains("throw new NoSuchElementException();"), true);
        }
        Matcher method = Pattern.compile("(?m)^( {4}| {8})(?=\\S).*\\) (throws \\w+ )?\\{\n((?:\\1 .*\n|\n)*)\\1}").matcher(code);
        int methods = 0;
        while (method.find()) {
            methods++;
            judge.due("some sixty lines: " + method.group().lines().findFirst().get(), method.group().lines().count() <= 60, true);
        }
        judge.due("methods were found", methods > 100, true);
        for (int k = 0; k < source.length(); k++) {
            if (source.charAt(k) > 127) {
                judge.due("sign " + k + " of the program is one of ASCII", false, true);
            }
        }
    }
}
