import java.lang.management.ManagementFactory;
import java.lang.reflect.Constructor;
import java.lang.reflect.Field;
import java.lang.reflect.Method;
import java.lang.reflect.Modifier;
import java.nio.file.Files;
import java.nio.file.Path;
import java.util.Arrays;
import java.util.Set;
import java.util.TreeSet;
import java.util.regex.Matcher;
import java.util.regex.Pattern;

/** The public face, the rules of LANGUAGE.md that can be read off, and how little the calls leave in memory. */
public final class FaceTest {
    private static final String SOURCE = "src/main/java/MovingPlaces.java";
    private static final Set<String> FACE = Set.of(
        "int place(int, int)", "int thread(int, long)", "int seal(int, boolean)", "int message(int, int)",
        "int ofPlace(int, int)", "int ofThread(int, int)", "int within(int, int)", "int can()", "int act(int)",
        "int rounds(int)", "int rows(int)", "int soonest(int, int, int)", "int said()", "int moves()", "int keep()",
        "int restore()", "int many(int)");

    private static int passed = 0;
    private static int failed = 0;

    public static void main(String[] args) throws Exception {
        constants();
        publicFace();
        nothingElseIsSeen();
        nestedClasses();
        staticFields();
        source();
        room();
        System.out.println(passed + " passed, " + failed + " failed");
        if (failed != 0) {
            System.exit(1);
        }
    }

    private static void due(String what, Object got, Object want) {
        if (got.equals(want)) {
            passed++;
        } else {
            failed++;
            System.out.println(what + ": " + got + ", due is " + want);
        }
    }

    private static void constants() {
        due("UNKNOWN", MovingPlaces.UNKNOWN, -1);
        due("OUTSIDE", MovingPlaces.OUTSIDE, -2);
        due("STATE", MovingPlaces.STATE, -3);
        due("FULL", MovingPlaces.FULL, -4);
        due("NONE", MovingPlaces.NONE, -9);
    }

    private static void publicFace() {
        due("public and final", MovingPlaces.class.getModifiers(), Modifier.PUBLIC | Modifier.FINAL);
        Set<String> methods = new TreeSet<>();
        for (Method m : MovingPlaces.class.getDeclaredMethods()) {
            if (Modifier.isPublic(m.getModifiers())) {
                String types = String.join(", ", Arrays.stream(m.getParameterTypes()).map(Class::getName).toList());
                methods.add(m.getReturnType().getName() + " " + m.getName() + "(" + types + ")");
            }
        }
        due("public methods", methods, new TreeSet<>(FACE));
        Set<String> fields = new TreeSet<>();
        for (Field f : MovingPlaces.class.getFields()) {
            fields.add(f.getName());
        }
        due("public fields", fields, new TreeSet<>(Set.of("UNKNOWN", "OUTSIDE", "STATE", "FULL", "NONE")));
        Constructor<?>[] constructors = MovingPlaces.class.getDeclaredConstructors();
        due("constructors", constructors.length, 1);
        due("constructor", constructors[0].toString(), "public MovingPlaces()");
    }

    private static void nothingElseIsSeen() {
        Set<String> seen = new TreeSet<>();
        for (Field f : MovingPlaces.class.getDeclaredFields()) {
            if (!Modifier.isPublic(f.getModifiers()) && !Modifier.isPrivate(f.getModifiers())) {
                seen.add(f.getName());
            }
        }
        for (Method m : MovingPlaces.class.getDeclaredMethods()) {
            if (!Modifier.isPublic(m.getModifiers()) && !Modifier.isPrivate(m.getModifiers())) {
                seen.add(m.getName());
            }
        }
        due("members neither public nor private", seen, Set.of());
    }

    private static void nestedClasses() {
        Set<String> names = new TreeSet<>();
        FACE.forEach(line -> names.add(line.substring(4, line.indexOf('('))));
        Set<String> twice = new TreeSet<>();
        due("at most twelve classes", MovingPlaces.class.getDeclaredClasses().length < 12, true);
        for (Class<?> c : MovingPlaces.class.getDeclaredClasses()) {
            due(c.getName() + " is static", Modifier.isStatic(c.getModifiers()), true);
            due(c.getName() + " is not public", Modifier.isPublic(c.getModifiers()), false);
            for (Method m : c.getDeclaredMethods()) {
                if (names.contains(m.getName())) {
                    twice.add(m.getName());
                }
            }
        }
        for (Method m : MovingPlaces.class.getDeclaredMethods()) {
            if (Modifier.isPrivate(m.getModifiers()) && names.contains(m.getName())) {
                twice.add(m.getName());
            }
        }
        due("names of public methods used again", twice, Set.of());
    }

    private static void staticFields() {
        for (Field f : MovingPlaces.class.getDeclaredFields()) {
            if (Modifier.isStatic(f.getModifiers())) {
                due(f.getName() + " is final", Modifier.isFinal(f.getModifiers()), true);
            }
        }
    }

    private static void source() throws Exception {
        String text = Files.readString(Path.of(SOURCE));
        due("plain signs alone", text.chars().allMatch(c -> c == '\n' || c >= 32 && c < 127), true);
        String code = text.replaceAll("(?s)/\\*.*?\\*/", "").replaceAll("//[^\n]*", "");
        String[] refused = {"\\bthrows?\\b", "\\btry\\b", "\\bcatch\\b", "\\bfinally\\b", "\\bsynchronized\\b", "\\bassert\\b",
            "->", "::", "\\bpackage\\b", "\\bimport\\b", "\\bstatic\\s*\\{", "\\bprotected\\b", "\\bvolatile\\b",
            "\\bdouble\\b", "\\bfloat\\b", "Exact\\b", "\\bhashCode\\b", "\\bequals\\b", "\\btoString\\b",
            "while\\s*\\(\\s*true", "for\\s*\\(\\s*;", "\\bRandom\\b", "\\bcurrentTimeMillis\\b", "\\bnanoTime\\b"};
        for (String pattern : refused) {
            due("the code has " + pattern, Pattern.compile(pattern).matcher(code).find(), false);
        }
        due("classes", count(code, "\\bclass\\b") <= 12, true);
        Matcher library = Pattern.compile("\\b(System|Integer|Long|Math|Arrays)\\.(\\w+)").matcher(code);
        while (library.find()) {
            due(library.group() + " is listed", Set.of("System.arraycopy", "Integer.bitCount").contains(library.group()), true);
        }
    }

    private static int count(String text, String pattern) {
        Matcher matcher = Pattern.compile(pattern).matcher(text);
        int count = 0;
        while (matcher.find()) {
            count++;
        }
        return count;
    }

    /** The dearest calls are made as often as an object may be used: they must leave next to nothing. */
    private static void room() {
        var threads = (com.sun.management.ThreadMXBean) ManagementFactory.getThreadMXBean();
        long self = Thread.currentThread().getId();
        MovingPlaces x = new MovingPlaces();
        for (int p = 1; p < 12; p++) {
            x.place(0, p % 6);
            x.thread(p, 404142434445L);
        }
        threads.getThreadAllocatedBytes(self);
        long before = threads.getThreadAllocatedBytes(self);
        int sum = 0;
        for (int i = 0; i < 128; i++) {
            sum += x.rows(3) + x.soonest(1, 2, 0) + x.moves() + x.keep() + x.restore();
        }
        long used = threads.getThreadAllocatedBytes(self) - before;
        due("the calls answer", sum, 128 * (1331 - 9 + 0 + 2));
        due("640 calls take less than 64 KiB, took " + used, used < 65536, true);
    }
}
