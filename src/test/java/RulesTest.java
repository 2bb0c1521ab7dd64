import java.io.IOException;
import java.lang.reflect.Constructor;
import java.lang.reflect.Field;
import java.lang.reflect.Method;
import java.lang.reflect.Modifier;
import java.nio.file.Files;
import java.nio.file.Path;
import java.util.ArrayList;
import java.util.List;
import java.util.TreeSet;
import java.util.regex.Matcher;
import java.util.regex.Pattern;

/** The face as the document has it, and the rules of LANGUAGE.md that can be seen from the class or its source. */
public final class RulesTest {
    private static int wrong = 0;

    private static void fail(String what) {
        wrong++;
        System.out.println(what);
    }

    private static final String[] FACE = {
        "int set(int,int,int)", "int dust(int,int,int)", "int told(int,int)", "int feed(int)", "int text()", "int force(int)",
        "int stroke(int)", "int week()", "int sweep(int,int)", "int sweeps(int)", "int floor(int)", "long where(int)",
        "int gather(int,int)", "int best(int)", "int save(int,int)", "int lasts(int,int)", "long share(int)",
        "int tells(int,int,int)", "long places(int,int)", "int film(int,int)", "int drawn(int,int)",
        "long chance(int,int,int,int)", "int image()", "int back()", "int count(int)", "int sheet(int,int,int)",
        "int cell(int,int,int)", "int copy(int,int,int,int,int)", "int heap(int,int,int,int)", "int taken(int,int)"};

    private static String told(Method m) {
        List<String> takes = new ArrayList<>();
        for (Class<?> c : m.getParameterTypes()) {
            takes.add(c.getName());
        }
        return m.getReturnType() + " " + m.getName() + "(" + String.join(",", takes) + ")";
    }

    private static void face() {
        Class<?> x = KinInTheHeap.class;
        if (x.getModifiers() != (Modifier.PUBLIC | Modifier.FINAL) || x.getSuperclass() != Object.class) {
            fail("the class is not public and final");
        }
        TreeSet<String> shown = new TreeSet<>();
        TreeSet<String> names = new TreeSet<>();
        for (Method m : x.getDeclaredMethods()) {
            if (Modifier.isPublic(m.getModifiers())) {
                shown.add(told(m));
                names.add(m.getName());
            } else if (!Modifier.isPrivate(m.getModifiers())) {
                fail(m + " can be seen");
            }
        }
        if (!shown.equals(new TreeSet<>(List.of(FACE)))) {
            fail("the face is " + shown);
        }
        for (Field f : x.getDeclaredFields()) {
            boolean constant = List.of("NONE", "BAD", "STATE", "FULL", "NO").contains(f.getName());
            if (Modifier.isPublic(f.getModifiers()) != constant || !constant && !Modifier.isPrivate(f.getModifiers())) {
                fail(f + " should not be seen so");
            }
            if (Modifier.isStatic(f.getModifiers()) && !Modifier.isFinal(f.getModifiers())) {
                fail(f + " is static and not final");
            }
        }
        for (Constructor<?> c : x.getDeclaredConstructors()) {
            if (c.getParameterCount() != 0 || !Modifier.isPublic(c.getModifiers())) {
                fail(c + " is not of the face");
            }
        }
        for (Method m : x.getDeclaredMethods()) {
            if (Modifier.isPrivate(m.getModifiers()) && names.contains(m.getName())) {
                fail(m + " bears the name of a public one");
            }
        }
        if (x.getDeclaredClasses().length > 12) {
            fail("there are " + x.getDeclaredClasses().length + " classes inside");
        }
        small(x);
        for (Class<?> in : x.getDeclaredClasses()) {
            inside(in, names);
        }
    }

    /** Some twenty fields beside the constants, and seven parameters at most. */
    private static void small(Class<?> x) {
        int fields = 0;
        for (Field f : x.getDeclaredFields()) {
            fields += Modifier.isStatic(f.getModifiers()) ? 0 : 1;
        }
        if (fields > 20) {
            fail(x + " has " + fields + " fields");
        }
        for (Method m : x.getDeclaredMethods()) {
            if (m.getParameterCount() > 7) {
                fail(m + " takes too many");
            }
        }
    }

    private static void inside(Class<?> in, TreeSet<String> names) {
        if (!Modifier.isStatic(in.getModifiers()) || Modifier.isPublic(in.getModifiers()) || Modifier.isProtected(in.getModifiers())) {
            fail(in + " is not static, or can be seen");
        }
        small(in);
        for (Method m : in.getDeclaredMethods()) {
            if (names.contains(m.getName()) || List.of("equals", "hashCode", "toString").contains(m.getName())) {
                fail(m + " bears a name that it should not");
            }
        }
    }

    private static void source() throws IOException {
        String s = Files.readString(Path.of("src/main/java/KinInTheHeap.java"));
        for (int i = 0; i < s.length(); i++) {
            if (s.charAt(i) > 126) {
                fail("a sign above 126 at " + i);
            }
        }
        s = s.replaceAll("(?s)/\\*.*?\\*/", " ").replaceAll("//[^\n]*", " ").replaceAll("\"[^\"\n]*\"", "\"\"");
        String[] never = {"throw", "throws", "try", "catch", "synchronized", "assert", "import", "package", "record", "enum",
            "protected", "volatile", "native", "strictfp", "transient", "var", "yield", "double", "float", "instanceof", "Object"};
        for (String word : never) {
            if (Pattern.compile("\\b" + word + "\\b").matcher(s).find()) {
                fail("the source has " + word);
            }
        }
        for (String sign : new String[] {"->", "::", "@", "Exact(", "static {"}) {
            if (s.contains(sign)) {
                fail("the source has " + sign);
            }
        }
        Matcher library = Pattern.compile("\\b(Math|Integer|Long|System|Arrays)\\.(\\w+)").matcher(s);
        List<String> may = List.of("Math.max", "Math.min", "Math.abs", "Math.floorMod", "Integer.bitCount", "Long.bitCount",
            "System.arraycopy");
        while (library.find()) {
            if (!may.contains(library.group())) {
                fail("the source has " + library.group());
            }
        }
        lengths(s);
    }

    /** Methods of some sixty lines at most, told by the lines from one that opens a body to the next that closes it. */
    private static void lengths(String s) {
        int opened = 0;
        String name = "";
        String[] lines = s.split("\n");
        for (int i = 0; i < lines.length; i++) {
            boolean opens = lines[i].matches("( {4}| {8})\\S.*\\) \\{") && !lines[i].matches("\\s*(if|for|while|switch).*");
            if (opens) {
                opened = i;
                name = lines[i].trim();
            }
            if (lines[i].matches("( {4}| {8})\\}") && i - opened > 62) {
                fail(name + " has " + (i - opened) + " lines");
            }
            if (lines[i].matches(".*\\bclass .*\\{")) {
                opened = i;
            }
        }
    }

    /** One of each call, the dear ones among them with much to do. */
    private static long eachCall(KinInTheHeap x) {
        String text = "goes force+number;frees kin-1;draws week*row-column;";
        long sum = x.set(0, 0, 0) + x.set(2, 9, 1) + x.dust(0, 4, 0) + x.dust(3, 5, 35) + x.told(0, 7);
        for (int i = 0; i < text.length(); i++) {
            sum += x.feed(text.charAt(i));
        }
        sum += x.text() + x.force(1) + x.stroke(0) + x.week() + x.sheet(0, 0, 6) + x.sweep(0, 0) + x.sweeps(0) + x.floor(3);
        sum += x.where(10) + x.gather(3, 1) + x.best(0) + x.best(3) + x.best(5) + x.save(3, 0) + x.lasts(0, 40) + x.share(0);
        sum += x.film(1, 0) + x.tells(1, 0, 3) + x.tells(1, 0, 5) + x.places(1, 0) + x.drawn(7, 40) + x.chance(7, 20, 1, 0);
        sum += x.image() + x.back() + x.count(1) + x.cell(0, 1, 2) + x.copy(0, 0, 1, 1, 3) + x.heap(0, 0, 0, 2) + x.taken(0, 0);
        return sum;
    }

    /** All calls of a run live in one room, so none of them may make anything. */
    private static void room() {
        com.sun.management.ThreadMXBean bean = (com.sun.management.ThreadMXBean) java.lang.management.ManagementFactory.getThreadMXBean();
        long sum = eachCall(new KinInTheHeap());
        KinInTheHeap[] all = new KinInTheHeap[50];
        for (int i = 0; i < all.length; i++) {
            all[i] = new KinInTheHeap();
        }
        long before = bean.getCurrentThreadAllocatedBytes();
        for (KinInTheHeap x : all) {
            sum += eachCall(x);
        }
        long made = bean.getCurrentThreadAllocatedBytes() - before;
        if (made > 10000) {
            fail("the calls made things of " + made + " bytes, and came to " + sum);
        }
    }

    public static void main(String[] args) throws IOException {
        face();
        source();
        room();
        System.out.println(wrong == 0 ? "the rules are kept" : wrong + " faults");
        if (wrong != 0) {
            System.exit(1);
        }
    }
}
