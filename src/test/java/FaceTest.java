import java.io.IOException;
import java.lang.management.ManagementFactory;
import java.lang.reflect.Constructor;
import java.lang.reflect.Field;
import java.lang.reflect.Method;
import java.lang.reflect.Modifier;
import java.nio.file.Files;
import java.nio.file.Path;
import java.util.ArrayList;
import java.util.List;
import java.util.TreeSet;

/** The class shows the document's face and no more, keeps to the rules of the language that can be looked up, and makes nothing in calls. */
public final class FaceTest extends Check {
    private static final String[] FORBIDDEN = {"\\bthrow\\b", "\\btry\\b", "\\bcatch\\b", "\\bsynchronized\\b", "\\bassert\\b", "->", "::",
        "\\bstatic \\{", "\\bprotected\\b", "Exact\\(", "\\bvar\\b", "@"};

    private FaceTest() { }

    private static void must(boolean good, String what) {
        if (!good) {
            wrong++;
            System.out.println("not so: " + what);
        }
    }

    private static String told(Method m) {
        List<String> types = new ArrayList<>();
        for (Class<?> c : m.getParameterTypes()) {
            types.add(c.getName());
        }
        return Modifier.toString(m.getModifiers()) + " " + m.getReturnType().getName() + " " + m.getName() + "("
            + String.join(",", types) + ")";
    }

    private static String told(Field f) throws IllegalAccessException {
        return Modifier.toString(f.getModifiers()) + " " + f.getType().getName() + " " + f.getName() + " = " + f.get(null);
    }

    /** The lines of the document's first code block between the braces, without the names of parameters. */
    private static TreeSet<String> faceOfDocument() {
        String document = document();
        int from = document.indexOf("```java");
        int to = document.indexOf("```", from + 7);
        must(from >= 0 && to > from, "the document has a code block");
        TreeSet<String> face = new TreeSet<>();
        for (String line : document.substring(Math.max(from, 0), Math.max(to, 0)).split("\n")) {
            if (line.startsWith("    ")) {
                face.add(line.strip().replace(";", "").replaceAll("(\\w+) \\w+([,)]) ?", "$1$2"));
            }
        }
        return face;
    }

    private static void checkFace() throws IllegalAccessException {
        TreeSet<String> got = new TreeSet<>();
        TreeSet<String> names = new TreeSet<>();
        for (Method m : SecondNearest.class.getDeclaredMethods()) {
            if (!Modifier.isPrivate(m.getModifiers())) {
                got.add(told(m));
                names.add(m.getName());
            }
        }
        for (Field f : SecondNearest.class.getDeclaredFields()) {
            if (!Modifier.isPrivate(f.getModifiers())) {
                got.add(told(f));
            }
            must(!Modifier.isStatic(f.getModifiers()) || Modifier.isFinal(f.getModifiers()), f + " is final");
        }
        for (Constructor<?> c : SecondNearest.class.getDeclaredConstructors()) {
            got.add(c.toString());
        }
        TreeSet<String> want = faceOfDocument();
        must(want.size() == 29, "a constant, a constructor and 27 methods: " + want);
        must(want.equals(got), "what can be seen of the class is the document's code block: " + got + ", due is " + want);
        must(SecondNearest.class.getModifiers() == (Modifier.PUBLIC | Modifier.FINAL), "the class is public and final");
        must(SecondNearest.class.getSuperclass() == Object.class && SecondNearest.class.getInterfaces().length == 0,
            "the class has nothing from others");
        checkInside(names);
    }

    private static void checkInside(TreeSet<String> publicNames) {
        must(SecondNearest.class.getDeclaredClasses().length <= 12, "twelve classes inside at most");
        for (Class<?> c : SecondNearest.class.getDeclaredClasses()) {
            must(Modifier.isStatic(c.getModifiers()) && !Modifier.isPublic(c.getModifiers()), c + " is static and not public");
            for (Method m : c.getDeclaredMethods()) {
                must(!publicNames.contains(m.getName()), m + " bears no public name");
                must(m.getParameterCount() <= 7, m + " takes at most seven");
            }
            for (Field f : c.getDeclaredFields()) {
                must(!Modifier.isStatic(f.getModifiers()) || Modifier.isFinal(f.getModifiers()), f + " is final");
            }
        }
    }

    private static void checkSource() throws IOException {
        String source = Files.readString(Path.of("src/main/java/SecondNearest.java"));
        String code = source.replaceAll("(?s)/\\*.*?\\*/", "").replaceAll("//[^\n]*", "");
        for (String word : FORBIDDEN) {
            must(!java.util.regex.Pattern.compile(word).matcher(code).find(), "no " + word + " in the class");
        }
        must(source.chars().allMatch(c -> c < 128), "signs below 128");
    }

    private static void callAll(SecondNearest s) {
        s.tick(0, 2);
        s.round(0, 0);
        s.files(0, 2);
        s.leader(0, 9, 0);
        s.post(0, 9, 0);
        s.lead(0, 2, 3, 0);
        s.wall(0, 9);
        s.ago(0);
        s.spoor(1, 0, 1);
        s.judged(0);
        s.bestLaw(20);
        s.seen(0, 1);
        s.image(0);
        s.back(0);
    }

    /** All calls of a run live in one room: rows are made in the constructor alone. */
    private static void checkRoom() {
        com.sun.management.ThreadMXBean bean = (com.sun.management.ThreadMXBean) ManagementFactory.getThreadMXBean();
        SecondNearest s = new SecondNearest();
        plain(s, "row ......;row .#..G.;row ......;person 0 0 1 1;person 3 2 2 1;herald 5 0");
        law(s, "follow 2 if seen > 1 and not gate = 0;follow 1");
        callAll(s);
        bean.getCurrentThreadAllocatedBytes();
        long before = bean.getCurrentThreadAllocatedBytes();
        long own = bean.getCurrentThreadAllocatedBytes() - before;
        before = bean.getCurrentThreadAllocatedBytes();
        for (int i = 0; i < 30; i++) {
            callAll(s);
        }
        long made = bean.getCurrentThreadAllocatedBytes() - before - own;
        must(made < 4000, "420 calls make nothing: " + made + " bytes");
        before = bean.getCurrentThreadAllocatedBytes();
        s = new SecondNearest();
        made = bean.getCurrentThreadAllocatedBytes() - before - own;
        must(made < 60000, "a new object is small: " + made + " bytes");
        must(s.count(0) == 0, "it is new");
    }

    public static void main(String[] args) throws IOException, IllegalAccessException {
        checkFace();
        checkSource();
        checkRoom();
        System.out.println(wrong == 0 ? "the face is as told" : wrong + " not so");
        if (wrong != 0) {
            System.exit(1);
        }
    }
}
