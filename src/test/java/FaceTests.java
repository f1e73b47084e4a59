import java.lang.reflect.Constructor;
import java.lang.reflect.Field;
import java.lang.reflect.Method;
import java.lang.reflect.Modifier;
import java.nio.file.Files;
import java.nio.file.Path;
import java.util.Arrays;
import java.util.HashSet;
import java.util.Set;
import java.util.TreeSet;

/** The face of the class, and those rules of ../shared/LANGUAGE.md that a test can see. */
final class FaceTests {
    private static final String[] FACE = {
        "int write(int)", "int wipe()", "int fault()", "int net()", "int proxy(int,int)", "int page(int,int)",
        "int counter(int,int)", "int hash(int,int,int)", "int says(int,int,boolean)", "int ask(int,int)",
        "int drop(int,int)", "int send(int)", "int threshold(int,int)", "int use(int)", "int undo()",
        "int weight(int)", "int best(int,int)", "int plan(int,int,int)", "int order(int,int,int)",
        "int judge(int,long)", "int see(int,int,int)", "int unsee()", "int which()", "int share(int,boolean)",
        "int lost(int,int,int,boolean)", "long seed(long)", "int drawn(int)", "int keep(int)", "int again(int)",
        "int count(int)"
    };

    private FaceTests() {
    }

    static void run() throws Exception {
        constants();
        members();
        source();
        allocations();
    }

    private static void constants() throws Exception {
        String[] names = {"UNKNOWN", "OUTSIDE", "STATE", "FULL", "NONE"};
        int[] values = {-1, -2, -3, -4, -9};
        Set<String> open = new TreeSet<>();
        for (Field field : ShelfFilters.class.getDeclaredFields()) {
            if (!Modifier.isPrivate(field.getModifiers())) {
                open.add(field.getName());
            }
        }
        Check.that("no open field but the constants", open.equals(new TreeSet<>(Arrays.asList(names))));
        for (int i = 0; i < names.length; i++) {
            Field field = ShelfFilters.class.getField(names[i]);
            Check.same(names[i], field.getInt(null), values[i]);
            Check.same("modifiers of " + names[i], field.getModifiers(),
                    Modifier.PUBLIC | Modifier.STATIC | Modifier.FINAL);
        }
    }

    private static void members() {
        Check.same("modifiers of the class", ShelfFilters.class.getModifiers(), Modifier.PUBLIC | Modifier.FINAL);
        Constructor<?>[] makers = ShelfFilters.class.getDeclaredConstructors();
        Check.that("one public constructor without parameters", makers.length == 1
                && makers[0].getParameterCount() == 0 && Modifier.isPublic(makers[0].getModifiers()));
        Set<String> names = new HashSet<>();
        for (String line : FACE) {
            names.add(line.substring(line.indexOf(' ') + 1, line.indexOf('(')));
        }
        Set<String> open = new TreeSet<>();
        for (Method method : ShelfFilters.class.getDeclaredMethods()) {
            if (Modifier.isPrivate(method.getModifiers())) {
                Check.that("private method " + method.getName(), !names.contains(method.getName()));
            } else {
                Check.same("modifiers of " + method.getName(), method.getModifiers(), Modifier.PUBLIC);
                open.add(signature(method));
            }
        }
        Check.that("the methods of the face", open.equals(new TreeSet<>(Arrays.asList(FACE))));
        for (Class<?> inner : ShelfFilters.class.getDeclaredClasses()) {
            Check.that("static and not public: " + inner.getName(), Modifier.isStatic(inner.getModifiers())
                    && !Modifier.isPublic(inner.getModifiers()) && !Modifier.isProtected(inner.getModifiers()));
        }
        Check.that("some twelve classes", ShelfFilters.class.getDeclaredClasses().length < 14);
    }

    private static String signature(Method method) {
        StringBuilder line = new StringBuilder(method.getReturnType().getName() + " " + method.getName() + "(");
        for (Class<?> type : method.getParameterTypes()) {
            line.append(line.charAt(line.length() - 1) == '(' ? "" : ",").append(type.getName());
        }
        return line.append(")").toString();
    }

    /** Words that LANGUAGE.md leaves out, whatever the program is like. */
    private static void source() throws Exception {
        String source = Files.readString(Path.of("src/main/java/ShelfFilters.java"));
        String[] banned = {"::", "finally", "synchronized", "assert", "Float.", "Double.", "Exact(", "hashCode",
            "protected ", "getMessage", "NullPointerException", "ArrayIndexOutOfBoundsException", "ClassCastException",
            "NegativeArraySizeException", "ArrayStoreException"};
        for (String word : banned) {
            Check.that("the source is without '" + word.trim() + "'", !source.contains(word));
        }
        Check.that("the source is ASCII", source.chars().allMatch(c -> c == '\n' || c >= 32 && c < 127));
        for (String line : source.split("\n")) {
            Check.that("no package line", !line.startsWith("package "));
            Check.that("no library but java.util's: " + line, !line.startsWith("import ") || line.startsWith("import java.util."));
            Check.that("of System only arraycopy: " + line, !line.contains("System.") || line.contains("System.arraycopy"));
        }
    }

    /** A run has one room for its objects: this is its size for 512 calls, at 16 bytes an object and 8 a field. */
    private static void allocations() {
        com.sun.management.ThreadMXBean bean =
                (com.sun.management.ThreadMXBean) java.lang.management.ManagementFactory.getThreadMXBean();
        ShelfFilters x = Check.net("N082h35p32h71p43p91s003s017s105");
        everyCall(x);
        long before = bean.getThreadAllocatedBytes(Thread.currentThread().getId());
        everyCall(x);
        long spent = bean.getThreadAllocatedBytes(Thread.currentThread().getId()) - before;
        long room = 600_000L * 16 + 7_300_000L * 8;
        Check.that("120 calls take their part of a run's room, but took " + spent + " bytes", spent < room * 120 / 512);
    }

    private static void everyCall(ShelfFilters x) {
        for (int i = 0; i < 6; i++) {
            x.ask(i % 3, 5 * i);
            x.order(0, 0x8421 << i, 0);
            x.plan(1, 4, 1020304);
            x.judge(3, 100304100500010L);
            x.lost(0, 5 * i, 3, true);
            x.share(0, true);
            x.drawn(20);
            x.best(0, 1);
            x.weight(0);
            x.see(0, i % 3, 1);
            x.which();
            x.use(i % 2);
            x.undo();
            x.keep(0);
            x.again(0);
            x.drop(0, 5 * i);
            x.send(0);
            x.threshold(0, 3);
            x.fault();
            x.net();
        }
    }
}
