import java.util.ArrayList;
import java.util.List;

/** Runs of calls, always the same ones, on the class and on the model: every answer must be alike. */
public final class ModelTest {
    private static final int RUNS = 200;
    private static final int TEXT_RUNS = 1500;

    private long seed;
    private SecondNearest real;
    private Model model;
    private final List<String> calls = new ArrayList<>();
    private int made;
    private static int wrong = 0;
    private static int compared = 0;

    private int any(int n) {
        seed = seed * 6364136223846793005L + 1442695040888963407L;
        return (int) Long.remainderUnsigned(seed >>> 33, n);
    }

    private boolean one(int of) {
        return any(of) == 0;
    }

    private void same(String call, long got, long want) {
        made++;
        compared++;
        calls.add(call + " = " + got);
        if (got != want) {
            wrong++;
            if (wrong <= 5) {
                System.out.println("answered " + got + ", the model " + want + ":");
                calls.forEach(c -> System.out.println("  " + c));
            }
        }
    }

    // ---- texts

    private String blanks() {
        return one(12) ? "  " : one(3) ? " " : "";
    }

    private String aPlain(int columns, int rows, int people, int heralds, int style) {
        String[] signs = {"..........", ".......#.G", "......##~G", ".....~~..G", "...####..G"};
        StringBuilder s = new StringBuilder();
        List<int[]> free = new ArrayList<>();
        for (int y = 0; y < rows; y++) {
            s.append(y == 0 ? "" : ";").append("row ");
            for (int x = 0; x < columns; x++) {
                char c = signs[style].charAt(any(10));
                c = c == 'G' && one(2) ? '.' : c;
                s.append(c);
                if (c == '.' || c == 'G' && one(2)) {
                    free.add(new int[] {x, y});
                }
            }
        }
        for (int i = 0; i < people + heralds && !free.isEmpty(); i++) {
            int[] place = free.remove(any(free.size()));
            boolean person = i < people;
            s.append(person ? ";person " : ";herald ").append(place[0]).append(' ').append(place[1]);
            if (person) {
                s.append(' ').append(one(3) ? any(3) : any(100)).append(' ').append(any(10));
            }
        }
        return s.toString();
    }

    private String aPlain() {
        int style = any(5);
        if (one(3)) {
            return aPlain(1 + any(6), 1 + any(6), one(5) ? 0 : 1 + any(3), any(3), style);
        }
        int columns = 2 + any(one(4) ? 11 : 6);
        int rows = 2 + any(one(4) ? 11 : 5);
        return aPlain(columns, rows, one(5) ? 12 : 2 + any(6), any(3), style);
    }

    private String aValue() {
        String[] words = {"x", "y", "age", "sort", "seen", "near", "gate", "beside", "elder"};
        return one(2) ? words[any(9)] : String.valueOf(one(8) ? any(100000) : any(12));
    }

    private String aSum() {
        StringBuilder s = new StringBuilder(aValue());
        for (int i = any(4); i > 0; i--) {
            s.append(blanks()).append("+-*/%".charAt(any(5))).append(blanks()).append(aValue());
        }
        return s.toString();
    }

    private String aFact(int depth) {
        if (depth < 11 && one(5)) {
            return "not " + aFact(depth + 1);
        }
        if (depth < 11 && one(5)) {
            return "[" + blanks() + aTest(depth + 1) + blanks() + "]";
        }
        String[] signs = {"<", "<=", "=", ">=", ">"};
        return aSum() + blanks() + signs[any(5)] + blanks() + aSum();
    }

    private String aTest(int depth) {
        StringBuilder s = new StringBuilder(aFact(depth));
        while (one(3)) {
            s.append(one(2) ? " and " : " or ").append(aFact(depth));
        }
        return s.toString();
    }

    private String aLaw() {
        if (one(3)) {
            String[] simple = {"follow 2", "follow 1", "follow 3;follow 2", "follow 1 if gate > 3;follow 2",
                "follow 2 if elder = 0;follow 1", "stand if beside > 1;follow 2", "follow 3 if seen > 2;follow 1 if near > 2;stand",
                "follow 1 if x+y=x+y and not age % 2 = 1;follow 2", "stand if gate <= near;follow 2 if x % 2 = 0;follow 1"};
            return simple[any(simple.length)];
        }
        StringBuilder s = new StringBuilder();
        int clauses = one(30) ? 13 : 1 + any(4);
        for (int i = 0; i < clauses; i++) {
            s.append(i == 0 ? "" : ";").append(blanks());
            s.append(one(6) ? "stand" : "follow " + (1 + any(one(3) ? 9 : 3)));
            if (i < clauses - 1 || one(2)) {
                s.append(" if ").append(aTest(0));
            }
        }
        return s.toString();
    }

    /** A LAW about the limits of depth, size and CLAUSES. */
    private String aLargeLaw() {
        StringBuilder s = new StringBuilder();
        int how = any(3);
        if (how == 0) {
            int depth = 9 + any(4);
            int brackets = 0;
            s.append("stand if ").append(one(2) ? "x=1 or " : "");
            for (int i = 0; i < depth; i++) {
                boolean not = one(2);
                s.append(not ? "not " : "[").append(!not && one(3) ? "y=2 and " : "");
                brackets += not ? 0 : 1;
            }
            s.append("x<3");
            for (int i = 0; i < brackets; i++) {
                s.append("]");
            }
        } else if (how == 1) {
            s.append("follow 1 if 1");
            for (int i = 1 + any(3); i < 60; i++) {
                boolean sign = one(6);
                s.append(sign ? "=2 or 3" : "+1");
                i += sign ? 2 : 0;
            }
            s.append(one(2) ? "=x" : "<zz");
        } else {
            for (int i = 10 + any(4); i > 0; i--) {
                s.append(one(2) ? "stand" : "follow 3").append(i > 1 ? ";" : "");
            }
            s.append(one(3) ? ";stnd" : "");
        }
        return s.toString();
    }

    /** A PLAIN about the limits of rows, PEOPLE and HERALDS. */
    private String aLargePlain() {
        StringBuilder s = new StringBuilder("row ....");
        int rows = one(3) ? 11 + any(3) : 1 + any(5);
        for (int i = 1; i < rows; i++) {
            s.append(";row ....").append(one(40) ? "." : "");
        }
        int people = one(2) ? 11 + any(3) : any(5);
        for (int i = 0; i < people; i++) {
            s.append(";person ").append(i % 4).append(' ').append(i / 4).append(" 5 ").append(any(10));
        }
        for (int i = any(4); i > 0; i--) {
            s.append(";herald ").append(i).append(' ').append(one(3) ? 0 : Math.min(rows, 12) - 1);
        }
        return s.toString();
    }

    private String spoiled(String text) {
        StringBuilder s = new StringBuilder(text);
        String signs = " ;[]<>=+-*/%.#~G0123456789xyagesortifnandw\u0000\u00ff";
        String[] bits = {"row ", "person ", ";row .", ";herald 0 0", ";person 1 1 1 1", "99999", "123456", " if ", "not ", "[[",
            " or ", " and ", ";stand", ";follow 2", "x", "row ............", "[[[[[[[[[[", "1+1+1+1+1+1+1+1+1+1+1+1+1+1+1+1+"};
        for (int i = 1 + any(2); i > 0; i--) {
            int at = any(s.length() + 1);
            int how = any(4);
            if (how == 0 && at < s.length()) {
                s.deleteCharAt(at);
            } else if (how == 1) {
                s.insert(at, signs.charAt(any(signs.length())));
            } else if (how == 2) {
                s.insert(at, bits[any(bits.length)]);
            } else if (at < s.length()) {
                s.setCharAt(at, signs.charAt(any(signs.length())));
            }
        }
        return one(6) ? s.substring(0, any(s.length() + 1)) : s.toString();
    }

    private void tell(String text) {
        int n = Math.min(text.length(), 400);
        byte[] bytes = new byte[420];
        for (int i = 0; i < n; i++) {
            bytes[i] = (byte) text.charAt(i);
        }
        for (int from = 0; from < n || from == 0; from += 20) {
            int[] f = new int[5];
            for (int i = 0; i < 20; i++) {
                f[i / 4] = f[i / 4] << 8 | bytes[from + i] & 255;
            }
            same("feed", real.feed(f[0], f[1], f[2], f[3], f[4]), model.feed(f[0], f[1], f[2], f[3], f[4]));
        }
        same("end(" + n + ") '" + text + "'", real.end(n), model.end(n));
    }

    private void tellPlain(String text) {
        tell(text);
        same("plain()", real.plain(), model.plain());
    }

    private void tellLaw(String text) {
        tell(text);
        same("law()", real.law(), model.law());
    }

    // ---- calls

    /** Mostly within the bounds, at times at or beyond them. */
    private int within(int least, int most) {
        int how = any(20);
        return how == 0 ? least - 1 : how == 1 ? most + 1 : how == 2 ? most : how == 3 ? least : least + any(most - least + 1);
    }

    private int some(int most) {
        return one(15) ? within(0, most) : any(Math.min(most, 15) + 1);
    }

    private int aLawNumber() {
        return one(15) ? within(0, 5) : any(Math.max(1, real.count(7)));
    }

    private int somebody() {
        return one(4) ? 12 + any(2) : one(15) ? within(0, 14) : any(Math.max(1, real.count(2)));
    }

    private void look() {
        int a = somebody();
        int b = within(0, 5);
        int c = within(0, 11);
        int d = within(0, 11);
        same("person(" + a + "," + b + ")", real.person(a, b), model.person(a, b));
        same("herald(" + (a - 12) + "," + b + ")", real.herald(a - 12, b), model.herald(a - 12, b));
        same("cell(" + c + "," + d + "," + b + ")", real.cell(c, d, b), model.cell(c, d, b));
        same("sees(" + a + ")", real.sees(a), model.sees(a));
        same("seen(" + a + "," + b + ")", real.seen(a, b), model.seen(a, b));
        same("count(" + c + ")", real.count(c), model.count(c));
    }

    private void change() {
        int law = aLawNumber();
        int a = somebody();
        int b = somebody();
        int n = one(3) ? within(1, 200) : 1 + any(3);
        int k = within(0, 3);
        int way = within(0, 7);
        switch (any(8)) {
            case 0:
            case 1:
                same("tick(" + law + "," + n + ")", real.tick(law, n), model.tick(law, n));
                break;
            case 2:
                same("goes(" + (a - 12) + "," + way + ")", real.goes(a - 12, way) ? 1 : 0, model.goes(a - 12, way) ? 1 : 0);
                break;
            case 3:
                same("image(" + k + ")", real.image(k), model.image(k));
                break;
            case 4:
                same("back(" + k + ")", real.back(k), model.back(k));
                break;
            case 5:
                a = one(20) ? -1 : a;
                int s = one(9) ? within(1, 200) : 1 + any(4);
                b = one(2) && s == 1 ? real.follows(law, a) : b;
                same("spoor(" + s + "," + a + "," + b + ")", real.spoor(s, a, b), model.spoor(s, a, b));
                break;
            case 6:
                if (real.count(7) < 6 || one(20)) {
                    tellLaw(one(4) ? spoiled(aLaw()) : aLaw());
                }
                break;
            default:
                if (one(4)) {
                    tellPlain(one(6) ? spoiled(aPlain()) : aPlain());
                }
        }
    }

    private void ask() {
        int law = aLawNumber();
        int a = somebody();
        int n = some(200);
        int t = some(60);
        int w = one(10) ? within(0, 14) : any(4);
        int w1 = one(10) ? within(0, 1) : any(2);
        switch (any(13)) {
            case 0:
                same("follows(" + law + "," + a + ")", real.follows(law, a), model.follows(law, a));
                break;
            case 1:
                same("ahead(" + law + "," + n + "," + w + ")", real.ahead(law, n, w), model.ahead(law, n, w));
                break;
            case 2:
                if (one(3)) {
                    same("round(" + law + "," + w1 + ")", real.round(law, w1), model.round(law, w1));
                }
                break;
            case 3:
                same("files(" + law + "," + w + ")", real.files(law, w), model.files(law, w));
                break;
            case 4:
                same("without(" + law + "," + a + "," + n + ")", real.without(law, a, n), model.without(law, a, n));
                break;
            case 5:
                same("leader(" + law + "," + n + "," + w1 + ")", real.leader(law, n, w1), model.leader(law, n, w1));
                break;
            case 6:
                same("judged(" + law + ")", real.judged(law), model.judged(law));
                break;
            case 7:
                same("bestLaw(" + n + ")", real.bestLaw(n), model.bestLaw(n));
                break;
            default:
                askDearly(law, t, w, w1);
        }
    }

    private void askDearly(int law, int t, int w, int w1) {
        int n = one(8) ? within(0, 3) : any(3);
        int m = one(8) ? within(0, 12) : any(5);
        switch (any(7)) {
            case 0:
                same("post(" + law + "," + t + "," + w1 + ")", real.post(law, t, w1), model.post(law, t, w1));
                break;
            case 1:
                same("lead(" + law + "," + n + "," + m + "," + w + ")", real.lead(law, n, m, w), model.lead(law, n, m, w));
                break;
            case 2:
                same("wall(" + law + "," + t + ")", real.wall(law, t), model.wall(law, t));
                break;
            case 3:
                same("ago(" + law + ")", real.ago(law), model.ago(law));
                break;
            default:
        }
    }

    private void run(int number) {
        seed = number * 1000003L + 17;
        real = new SecondNearest();
        model = new Model();
        made = 0;
        for (int i = 0; i < 10 && real.count(7) < 1 + number % 4; i++) {
            tellLaw(aLaw());
        }
        for (int i = 0; i < 5 && real.count(1) == 0 && number % 20 != 0; i++) {
            tellPlain(aPlain());
        }
        for (int i = 0; i < 70 && made < 440 && wrong == 0; i++) {
            int how = any(3);
            if (how == 0) {
                look();
            } else if (how == 1) {
                change();
            } else {
                ask();
            }
        }
    }

    private void runTexts(int number) {
        seed = number * 1000033L + 5;
        real = new SecondNearest();
        model = new Model();
        for (int i = 0; i < 12 && wrong == 0; i++) {
            boolean asLaw = one(2);
            String text = asLaw ? one(2) ? aLaw() : aLargeLaw() : one(2) ? aPlain() : aLargePlain();
            text = one(3) ? text : spoiled(text);
            if (asLaw) {
                tellLaw(text);
            } else {
                tellPlain(text);
            }
        }
    }

    public static void main(String[] args) {
        int from = args.length > 0 ? Integer.parseInt(args[0]) : 0;
        int runs = args.length > 1 ? Integer.parseInt(args[1]) : RUNS;
        for (int i = from; i < from + runs && wrong == 0; i++) {
            new ModelTest().run(i);
        }
        for (int i = from; i < from + TEXT_RUNS && wrong == 0; i++) {
            new ModelTest().runTexts(i);
        }
        System.out.println(compared + " answers compared, " + wrong + " unlike");
        if (wrong != 0) {
            System.exit(1);
        }
    }
}
