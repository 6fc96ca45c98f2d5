import java.io.IOException;
import java.nio.file.Files;
import java.nio.file.Path;
import java.util.ArrayList;
import java.util.List;
import java.util.function.Supplier;
import java.util.function.ToIntFunction;

/** What the tests share: texts told to an object, answers compared, and a look at all that can be asked of an object. */
class Check {
    static final int NONE = SecondNearest.NONE;
    /** No number, of whatever it is, is so far beyond. */
    static final int[] WILD = {Integer.MIN_VALUE, Integer.MAX_VALUE};
    static final String SQUARE = "row ............" + times(";row ............", 11);
    /** Rows 0, 2 .. 10 are open, with one CELL of each row between, by turns to the right and to the left. */
    static final String LONG_WAY = "row G...........;row ###########.;row ............;row .###########"
        + ";row ............;row ###########.;row ............;row .###########;row ............;row ###########."
        + ";row ............;row .###########";
    static int wrong = 0;
    static int checks = 0;
    static String part = "";
    /** Sentences of the document that have a test of their own. */
    static final List<String> SAID = new ArrayList<>();
    private static final String DOCUMENT = document();

    /** The checks behind this call are of a sentence, told here as the document does. */
    static void says(String sentence) {
        part = "'" + sentence + "'";
        SAID.add(sentence);
        due("the document says so", DOCUMENT.contains(sentence), true);
    }

    static void due(String what, long got, long want) {
        checks++;
        if (got != want) {
            wrong++;
            System.out.println(part + ": " + what + " answered " + got + ", due is " + want);
        }
    }

    static void due(String what, boolean got, boolean want) {
        due(what, got ? 1 : 0, want ? 1 : 0);
    }

    static void due(String what, String got, String want) {
        checks++;
        if (!got.equals(want)) {
            wrong++;
            System.out.println(part + ": " + what + " is\n  " + got + "\ndue is\n  " + want);
        }
    }

    /** The TAPE is the text alone then, of at most 400 bytes. */
    static void tell(SecondNearest s, String text) {
        s.end(0);
        for (int from = 0; from < text.length(); from += 20) {
            int[] f = new int[5];
            for (int i = 0; i < 20; i++) {
                int c = from + i < text.length() ? text.charAt(from + i) & 255 : 0;
                f[i / 4] = f[i / 4] << 8 | c;
            }
            s.feed(f[0], f[1], f[2], f[3], f[4]);
        }
        due("so many bytes of '" + text + "'", s.end(text.length()), text.length());
    }

    static int plain(SecondNearest s, String text) {
        tell(s, text);
        return s.plain();
    }

    static int law(SecondNearest s, String text) {
        tell(s, text);
        return s.law();
    }

    static SecondNearest on(String text, String... laws) {
        SecondNearest s = new SecondNearest();
        due("the PLAIN '" + text + "'", Math.min(0, plain(s, text)), 0);
        for (int i = 0; i < laws.length; i++) {
            due("the LAW '" + laws[i] + "'", law(s, laws[i]), i);
        }
        return s;
    }

    /** LAWS, but no PLAIN. */
    static SecondNearest withLaw(String text) {
        SecondNearest s = new SecondNearest();
        due("the LAW '" + text + "'", law(s, text), 0);
        return s;
    }

    /** In the midst of things: PERSON 0 is OUT, 1 stands beside the HERALD; of two SPOORS the second is not so by LAW 0. */
    static SecondNearest busy() {
        SecondNearest s = on("row .G..;row ~#..;person 0 0 30 4;person 3 1 7 9;herald 2 0", "follow 1", "stand");
        due("a STEP", s.tick(0, 1), 1);
        due("a SPOOR", s.spoor(1, 1, 12), 1);
        due("another one", s.spoor(2, 1, 0), 2);
        return s;
    }

    /** CLAUSES for so many PEOPLE, beside one another in row 0, of the ages 0, 1 .. */
    static String peopleOfARow(int n) {
        StringBuilder s = new StringBuilder();
        for (int i = 0; i < n; i++) {
            s.append(";person ").append(i).append(" 0 ").append(i).append(" 0");
        }
        return s.toString();
    }

    static int fault(int place, int kind) {
        return -2 - (1 + 8 * place + kind);
    }

    static String times(String text, int n) {
        return text.repeat(n);
    }

    /** Whom one SEES, in order, as far as there is somebody. */
    static String order(SecondNearest s, int who) {
        List<Integer> list = new ArrayList<>();
        int other = s.seen(who, 1);
        while (other >= 0 && list.size() < 14) {
            list.add(other);
            other = s.seen(who, list.size() + 1);
        }
        return list.toString();
    }

    static String where(SecondNearest s, int person) {
        return s.person(person, 0) + "," + s.person(person, 1);
    }

    /** All that calls tell of an object without changing it (of its SPOORS by what LAWS make of them): for small PLAINS. */
    static String state(SecondNearest s) {
        int[] counts = new int[10];
        StringBuilder all = new StringBuilder("count");
        for (int what = 0; what <= 9; what++) {
            counts[what] = s.count(what);
            all.append(' ').append(counts[what]);
        }
        for (int p = 0; p < counts[2]; p++) {
            all.append("; person");
            for (int what = 0; what <= 4; what++) {
                all.append(' ').append(s.person(p, what));
            }
            all.append(" sees ").append(s.sees(p)).append(order(s, p));
        }
        for (int h = 0; h < counts[3]; h++) {
            all.append("; herald ").append(s.herald(h, 0)).append(' ').append(s.herald(h, 1)).append(order(s, 12 + h));
        }
        for (int y = 0; y < counts[1]; y++) {
            all.append("; row");
            for (int x = 0; x < counts[0]; x++) {
                all.append(' ').append(s.cell(x, y, 0)).append('/').append(s.cell(x, y, 1)).append('/').append(s.cell(x, y, 2));
            }
        }
        for (int law = 0; law < counts[7]; law++) {
            all.append("; law judged ").append(s.judged(law)).append(" follows");
            for (int p = 0; p < counts[2]; p++) {
                all.append(' ').append(s.follows(law, p));
            }
        }
        return all.toString();
    }

    /** A call of which nothing happens; the object is made for it, so that none is used for more than 512 calls. */
    static void stays(String call, Supplier<SecondNearest> object, ToIntFunction<SecondNearest> answer, int want) {
        SecondNearest s = object.get();
        String before = state(s);
        due(call, answer.applyAsInt(s), want);
        due("all behind " + call, state(s), before);
    }

    static String document() {
        try {
            return Files.readString(Path.of("../shared/DOC.md"));
        } catch (IOException e) {
            due("../shared/DOC.md can be read", 0, 1);
            return "";
        }
    }

    static void run(String name, Runnable test) {
        part = name;
        test.run();
    }

    static void report() {
        System.out.println(checks + " checks, " + wrong + " wrong");
        if (wrong != 0) {
            System.exit(1);
        }
    }
}
