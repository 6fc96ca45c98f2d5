import java.io.IOException;
import java.lang.management.ManagementFactory;
import java.lang.reflect.Constructor;
import java.lang.reflect.Field;
import java.lang.reflect.Method;
import java.lang.reflect.Modifier;
import java.nio.file.Files;
import java.nio.file.Path;
import java.util.ArrayList;
import java.util.List;
import java.util.TreeSet;

/** The class shows the document's face and no more, keeps to the rules of the language that can be looked up, and makes nothing in calls. */
public final class FaceTest extends Check {
    private static final String[] FACE = {
        "int feed(int,int,int,int,int)", "int end(int)", "int plain()", "int law()", "int person(int,int)", "int herald(int,int)",
        "int cell(int,int,int)", "int sees(int)", "int seen(int,int)", "boolean goes(int,int)", "int tick(int,int)",
        "int follows(int,int)", "int ahead(int,int,int)", "int round(int,int)", "int files(int,int)", "int without(int,int,int)",
        "int leader(int,int,int)", "int post(int,int,int)", "int lead(int,int,int,int)", "int wall(int,int)", "int ago(int)",
        "int spoor(int,int,int)", "int judged(int)", "int bestLaw(int)", "int count(int)", "int image(int)", "int back(int)"};
    private static final String[] FORBIDDEN = {"\\bthrow\\b", "\\btry\\b", "\\bcatch\\b", "\\bsynchronized\\b", "\\bassert\\b", "->", "::",
        "\\bstatic \\{", "\\bprotected\\b", "Exact\\(", "\\bvar\\b", "@"};

    private FaceTest() { }

    private static void must(boolean good, String what) {
        if (!good) {
            wrong++;
            System.out.println("not so: " + what);
        }
    }

    private static String told(Method m) {
        List<String> types = new ArrayList<>();
        for (Class<?> c : m.getParameterTypes()) {
            types.add(c.getName());
        }
        return m.getReturnType().getName() + " " + m.getName() + "(" + String.join(",", types) + ")";
    }

    private static void checkFace() {
        TreeSet<String> want = new TreeSet<>(List.of(FACE));
        TreeSet<String> got = new TreeSet<>();
        TreeSet<String> names = new TreeSet<>();
        for (Method m : SecondNearest.class.getDeclaredMethods()) {
            if (!Modifier.isPrivate(m.getModifiers())) {
                got.add(told(m));
                names.add(m.getName());
                must(Modifier.isPublic(m.getModifiers()) && !Modifier.isStatic(m.getModifiers()), m + " is public and of objects");
            }
        }
        must(want.equals(got), "the methods are those of the document: " + got);
        for (Field f : SecondNearest.class.getDeclaredFields()) {
            must(Modifier.isPrivate(f.getModifiers()) || f.getName().equals("NONE"), f + " is private");
            must(!Modifier.isStatic(f.getModifiers()) || Modifier.isFinal(f.getModifiers()), f + " is final");
        }
        Constructor<?>[] constructors = SecondNearest.class.getDeclaredConstructors();
        must(constructors.length == 1 && constructors[0].getParameterCount() == 0, "one constructor");
        must(Modifier.isFinal(SecondNearest.class.getModifiers()), "the class is final");
        checkInside(names);
    }

    private static void checkInside(TreeSet<String> publicNames) {
        must(SecondNearest.class.getDeclaredClasses().length <= 12, "twelve classes inside at most");
        for (Class<?> c : SecondNearest.class.getDeclaredClasses()) {
            must(Modifier.isStatic(c.getModifiers()) && !Modifier.isPublic(c.getModifiers()), c + " is static and not public");
            for (Method m : c.getDeclaredMethods()) {
                must(!publicNames.contains(m.getName()), m + " bears no public name");
                must(m.getParameterCount() <= 7, m + " takes at most seven");
            }
            for (Field f : c.getDeclaredFields()) {
                must(!Modifier.isStatic(f.getModifiers()) || Modifier.isFinal(f.getModifiers()), f + " is final");
            }
        }
    }

    private static void checkSource() throws IOException {
        String source = Files.readString(Path.of("src/main/java/SecondNearest.java"));
        String code = source.replaceAll("(?s)/\\*.*?\\*/", "").replaceAll("//[^\n]*", "");
        for (String word : FORBIDDEN) {
            must(!java.util.regex.Pattern.compile(word).matcher(code).find(), "no " + word + " in the class");
        }
        must(source.chars().allMatch(c -> c < 128), "signs below 128");
    }

    private static void callAll(SecondNearest s) {
        s.tick(0, 2);
        s.round(0, 0);
        s.files(0, 2);
        s.leader(0, 9, 0);
        s.post(0, 9, 0);
        s.lead(0, 2, 3, 0);
        s.wall(0, 9);
        s.ago(0);
        s.spoor(1, 0, 1);
        s.judged(0);
        s.bestLaw(20);
        s.seen(0, 1);
        s.image(0);
        s.back(0);
    }

    /** All calls of a run live in one room: rows are made in the constructor alone. */
    private static void checkRoom() {
        com.sun.management.ThreadMXBean bean = (com.sun.management.ThreadMXBean) ManagementFactory.getThreadMXBean();
        SecondNearest s = new SecondNearest();
        plain(s, "row ......;row .#..G.;row ......;person 0 0 1 1;person 3 2 2 1;herald 5 0");
        law(s, "follow 2 if seen > 1 and not gate = 0;follow 1");
        callAll(s);
        bean.getCurrentThreadAllocatedBytes();
        long before = bean.getCurrentThreadAllocatedBytes();
        long own = bean.getCurrentThreadAllocatedBytes() - before;
        before = bean.getCurrentThreadAllocatedBytes();
        for (int i = 0; i < 30; i++) {
            callAll(s);
        }
        long made = bean.getCurrentThreadAllocatedBytes() - before - own;
        must(made < 4000, "420 calls make nothing: " + made + " bytes");
        before = bean.getCurrentThreadAllocatedBytes();
        s = new SecondNearest();
        made = bean.getCurrentThreadAllocatedBytes() - before - own;
        must(made < 60000, "a new object is small: " + made + " bytes");
        must(s.count(0) == 0, "it is new");
    }

    public static void main(String[] args) throws IOException {
        checkFace();
        checkSource();
        checkRoom();
        System.out.println(wrong == 0 ? "the face is as told" : wrong + " not so");
        if (wrong != 0) {
            System.exit(1);
        }
    }
}
