import java.io.IOException;
import java.lang.management.ManagementFactory;
import java.lang.reflect.Constructor;
import java.lang.reflect.Field;
import java.lang.reflect.Method;
import java.lang.reflect.Modifier;
import java.nio.charset.StandardCharsets;
import java.nio.file.Files;
import java.nio.file.Path;
import java.util.Set;
import java.util.TreeSet;
import java.util.regex.Matcher;
import java.util.regex.Pattern;

/** The public face, those rules of LANGUAGE.md that can be seen from outside, the room, and calls with any arguments. */
public final class FaceTest {
    private static final Due DUE = new Due();

    private static final String[] FACE = {
        "boolean set(int, int)", "boolean function(int, int, int)", "int line(int, int, int, int, int)",
        "boolean start(int, int, int, int)", "int step(int, int)", "int round(int)", "boolean stop(int)",
        "boolean quiet(int)", "boolean join(int)", "int compact()", "int deep(int)", "int need(int)",
        "int task(int, int)", "int frame(int, int, int)", "int slot(int, int, int, int)", "int piece(int, int, int)",
        "int gap(int, int)", "int endless(int, int, int)", "int land(int, int, int)", "int alone(int, int, int, int)",
        "int log(int, int)", "int never(int)", "int count(int)", "boolean image(boolean)", "int look(int)",
    };

    public static void main(String[] args) throws Exception {
        face();
        classesInside();
        words();
        methods();
        room();
        anyArguments();
        DUE.end();
    }

    private static String nameOf(Method m) {
        StringBuilder b = new StringBuilder(m.getReturnType().getSimpleName()).append(' ').append(m.getName()).append('(');
        String comma = "";
        for (Class<?> p : m.getParameterTypes()) {
            b.append(comma).append(p.getSimpleName());
            comma = ", ";
        }
        return b.append(')').toString();
    }

    private static void face() throws Exception {
        Class<?> c = GrowingStacks.class;
        DUE.is("modifiers", c.getModifiers(), Modifier.PUBLIC | Modifier.FINAL);
        Set<String> due = new TreeSet<>(Set.of(FACE));
        Set<String> names = new TreeSet<>();
        for (Method m : c.getDeclaredMethods()) {
            if (Modifier.isPublic(m.getModifiers())) {
                names.add(m.getName());
                DUE.yes("public " + nameOf(m), due.remove(nameOf(m)) && !Modifier.isStatic(m.getModifiers()));
            }
        }
        DUE.is("not there: " + due, due.size(), 0);
        for (Method m : c.getDeclaredMethods()) {
            if (!Modifier.isPublic(m.getModifiers())) {
                DUE.yes("private " + m.getName(), Modifier.isPrivate(m.getModifiers()) && !names.contains(m.getName()));
            }
        }
        Constructor<?>[] made = c.getDeclaredConstructors();
        DUE.is("constructors", made.length, 1);
        DUE.yes("public GrowingStacks()", Modifier.isPublic(made[0].getModifiers()) && made[0].getParameterCount() == 0);
        for (Field f : c.getDeclaredFields()) {
            boolean none = f.getName().equals("NONE");
            DUE.is(f.getName() + " is public", Modifier.isPublic(f.getModifiers()), none);
            DUE.is(f.getName() + " is private", Modifier.isPrivate(f.getModifiers()), !none);
            DUE.yes(f.getName() + " is final, if static",
                    !Modifier.isStatic(f.getModifiers()) || Modifier.isFinal(f.getModifiers()));
        }
        DUE.is("NONE", c.getField("NONE").getInt(null), -1);
    }

    /** Those beside its constants. */
    private static int fields(Class<?> c) {
        int n = 0;
        for (Field f : c.getDeclaredFields()) {
            n += Modifier.isStatic(f.getModifiers()) ? 0 : 1;
        }
        return n;
    }

    private static void classesInside() {
        Class<?>[] inside = GrowingStacks.class.getDeclaredClasses();
        DUE.yes("at most 20 fields", fields(GrowingStacks.class) <= 20);
        DUE.yes("at most 12 classes", inside.length < 12);
        for (Class<?> c : inside) {
            int m = c.getModifiers();
            DUE.yes(c.getSimpleName(), Modifier.isStatic(m) && !Modifier.isPublic(m) && !Modifier.isProtected(m));
            DUE.yes(c.getSimpleName() + ": at most 20 fields", fields(c) <= 20);
            for (Method method : c.getDeclaredMethods()) {
                DUE.yes(method.getName() + ": at most 7 parameters", method.getParameterCount() <= 7);
            }
        }
    }

    /** The source without comments and texts. */
    private static String source() throws IOException {
        String s = Files.readString(Path.of("src/main/java/GrowingStacks.java"), StandardCharsets.UTF_8);
        return s.replaceAll("(?s)/\\*.*?\\*/", "").replaceAll("//[^\n]*", "").replaceAll("\"[^\"\n]*\"", "\"\"");
    }

    private static void words() throws IOException {
        String s = source();
        String[] refused = {"throw", "throws", "try", "catch", "finally", "synchronized", "assert", "protected",
            "package", "native", "volatile", "transient", "Object", "String\\s*\\+", "Random", "Thread", "Exception",
            "currentTimeMillis", "nanoTime", "hashCode", "equals", "var", "yield"};
        for (String word : refused) {
            DUE.no("the word " + word, Pattern.compile("\\b" + word + "\\b").matcher(s).find());
        }
        DUE.no("a lambda", s.contains("->"));
        DUE.no("a method reference", s.contains("::"));
        DUE.no("Exact", s.contains("Exact("));
        DUE.no("a loop without an end", Pattern.compile("while\\s*\\(\\s*true|for\\s*\\([^;]*;\\s*;").matcher(s).find());
        Matcher imports = Pattern.compile("import ([^;]*);").matcher(s);
        while (imports.find()) {
            DUE.yes("import " + imports.group(1), imports.group(1).equals("java.util.Arrays"));
        }
        Matcher library = Pattern.compile("\\b(System|Arrays|Math|Integer|Long)\\.(\\w+)").matcher(s);
        Set<String> known = Set.of("System.arraycopy", "Arrays.fill", "Arrays.copyOf", "Arrays.copyOfRange", "Math.max",
            "Math.min", "Math.abs", "Math.floorDiv", "Math.floorMod", "Integer.bitCount", "Integer.compare");
        while (library.find()) {
            DUE.yes(library.group(), known.contains(library.group()));
        }
    }

    /** From a method's head to the brace that closes it, as they stand in this file. */
    private static void methods() throws IOException {
        String head = "";
        int length = 0;
        for (String line : source().split("\n")) {
            boolean outer = line.matches("    [\\w].*\\) \\{");
            boolean inner = line.matches("        (?!if|for|switch)[\\w].*\\) \\{");
            if (outer || inner && !head.startsWith("    p")) {
                head = line;
                length = 0;
            }
            length++;
            if (line.equals("    }") || line.equals("        }") && !head.startsWith("    p")) {
                DUE.yes(head.trim() + " has at most 60 lines", length <= 60 || head.isEmpty());
                head = "";
                length = 0;
            }
        }
    }

    private static long allocated() {
        com.sun.management.ThreadMXBean bean = (com.sun.management.ThreadMXBean) ManagementFactory.getThreadMXBean();
        return bean.getThreadAllocatedBytes(Thread.currentThread().getId());
    }

    /** An int has 4 bytes: a new object has to stay far below the room of 7.3 million elements, a call takes none. */
    private static void room() {
        GrowingStacks first = new GrowingStacks();
        Programs.sum(first, 0);
        everyCall(first);
        long before = allocated();
        GrowingStacks x = new GrowingStacks();
        long made = allocated() - before;
        DUE.yes("a new object takes " + made + " bytes", made < 30000 * 4);
        Programs.sum(x, 0);
        before = allocated();
        for (int i = 0; i < 20; i++) {
            everyCall(x);
        }
        long more = allocated() - before;
        DUE.yes("500 calls take " + more + " bytes", more < 20000);
    }

    private static void everyCall(GrowingStacks x) {
        x.start(0, 0, 90, 0);
        x.start(1, 0, 90, 1);
        x.start(2, 0, 1, 1);
        x.round(100);
        x.step(1, 200);
        x.image(true);
        x.quiet(0);
        x.join(1);
        x.compact();
        x.image(false);
        x.deep(0);
        x.need(0);
        x.task(0, 6);
        x.frame(0, 5, 2);
        x.slot(0, 5, 1, 1);
        x.piece(1, 3, 0);
        x.gap(0, 0);
        x.endless(0, 300, 0);
        x.land(0, 200, 0);
        x.alone(0, 300, 1, 5);
        x.log(0, 0);
        x.never(1);
        x.never(2);
        x.count(0);
        x.look(8);
        x.stop(0);
        x.stop(1);
        x.stop(2);
        x.set(0, 20);
        x.function(1, 2, 0);
    }

    /** No call may throw, whatever it is asked. */
    private static void anyArguments() throws Exception {
        int[] odd = {Integer.MIN_VALUE, -1000000, -2, -1, 0, 1, 2, 5, 6, 7, 9, 10, 15, 16, 40, 41, 200, 256, 2047, 2048,
            Integer.MAX_VALUE - 1, Integer.MAX_VALUE};
        java.util.Random random = new java.util.Random(7);
        Method[] methods = GrowingStacks.class.getMethods();
        for (int run = 0; run < 60; run++) {
            GrowingStacks x = new GrowingStacks();
            Programs.sum(x, 0);
            Programs.foreign(x, 1, 5, 30, 0);
            Programs.forever(x, 2, 8);
            for (int call = 0; call < 2000; call++) {
                Method m = methods[random.nextInt(methods.length)];
                if (m.getDeclaringClass() != GrowingStacks.class) {
                    continue;
                }
                Object[] given = new Object[m.getParameterCount()];
                for (int i = 0; i < given.length; i++) {
                    int n = random.nextInt(3) > 0 ? random.nextInt(9) : odd[random.nextInt(odd.length)];
                    given[i] = m.getParameterTypes()[i] == boolean.class ? (Object) random.nextBoolean() : (Object) n;
                }
                m.invoke(x, given);
            }
            DUE.is("never(0)", x.never(0), 0);
            DUE.is("never(1)", x.never(1), 0);
            DUE.is("never(2)", x.never(2), 0);
        }
    }
}
