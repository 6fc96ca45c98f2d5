import java.util.ArrayList;
import java.util.Arrays;
import java.util.Comparator;
import java.util.List;

/**
 * The document told a second time, as plainly as can be and with nothing of the class's own code: texts are split into
 * pieces first, tests are trees, nothing is cut short, everything is tried out. ModelTest compares the two.
 */
final class Model {
    static final int NONE = -1;

    private static final class Fault extends Exception {
        private static final long serialVersionUID = 1L;
        final int number;

        Fault(int place, int kind) {
            number = 1 + 8 * place + kind;
        }
    }

    /** A word, a number, a sign; at the end an empty one. */
    private record Piece(String text, int place) {
        boolean is(String other) {
            return text.equals(other);
        }

        boolean isNumber() {
            return !text.isEmpty() && text.chars().allMatch(c -> c >= '0' && c <= '9');
        }
    }

    private interface Sum {
        long of(World world, int person);
    }

    private interface Test {
        boolean of(World world, int person);
    }

    private record Clause(int place, Test test) { }

    private static final class Body {
        int number;
        int x;
        int y;
        int age = -1;
        int sort;
        int out = -1;
        boolean there = true;

        Body copy() {
            Body b = new Body();
            b.number = number;
            b.x = x;
            b.y = y;
            b.age = age;
            b.sort = sort;
            b.out = out;
            b.there = there;
            return b;
        }

        boolean standsAt(int cx, int cy) {
            return there && x == cx && y == cy;
        }

        int distance(int cx, int cy) {
            return (x - cx) * (x - cx) + (y - cy) * (y - cy);
        }

        String where() {
            return there ? x + "," + y : "out";
        }
    }

    private static final int[][] WAYS = {{0, -1}, {1, -1}, {1, 0}, {1, 1}, {0, 1}, {-1, 1}, {-1, 0}, {-1, -1}};

    private static final class World {
        List<char[]> rows = new ArrayList<>();
        List<Body> people = new ArrayList<>();
        List<Body> heralds = new ArrayList<>();
        List<int[]> spoors = new ArrayList<>();
        int steps;

        World copy() {
            World w = new World();
            for (char[] row : rows) {
                w.rows.add(row.clone());
            }
            for (Body b : people) {
                w.people.add(b.copy());
            }
            for (Body b : heralds) {
                w.heralds.add(b.copy());
            }
            for (int[] s : spoors) {
                w.spoors.add(s.clone());
            }
            w.steps = steps;
            return w;
        }

        int columns() {
            return rows.isEmpty() ? 0 : rows.get(0).length;
        }

        boolean has(int x, int y) {
            return y >= 0 && y < rows.size() && x >= 0 && x < columns();
        }

        char sign(int x, int y) {
            return rows.get(y)[x];
        }

        boolean ground(int x, int y) {
            return has(x, y) && (sign(x, y) == '.' || sign(x, y) == 'G');
        }

        List<Body> everybody() {
            List<Body> all = new ArrayList<>(people);
            all.addAll(heralds);
            return all;
        }

        Body body(int who) {
            for (Body b : everybody()) {
                if (b.number == who) {
                    return b;
                }
            }
            return null;
        }

        Body who(int x, int y) {
            for (Body b : everybody()) {
                if (b.standsAt(x, y)) {
                    return b;
                }
            }
            return null;
        }

        boolean free(int x, int y) {
            return ground(x, y) && who(x, y) == null;
        }

        int outs() {
            int n = 0;
            for (Body b : people) {
                n += b.out >= 0 ? 1 : 0;
            }
            return n;
        }

        String situation() {
            StringBuilder s = new StringBuilder();
            for (Body b : people) {
                s.append(b.where()).append(' ');
            }
            return s.toString();
        }

        boolean sees(Body a, Body b) {
            boolean swap = 12 * a.y + a.x > 12 * b.y + b.x;
            Body low = swap ? b : a;
            Body high = swap ? a : b;
            int dx = high.x - low.x;
            int dy = high.y - low.y;
            int n = Math.max(Math.abs(dx), Math.abs(dy));
            for (int k = 1; k < n; k++) {
                int x = low.x + (int) Math.floor((2.0 * k * dx + n) / (2.0 * n));
                int y = low.y + (int) Math.floor((2.0 * k * dy + n) / (2.0 * n));
                if (sign(x, y) == '#') {
                    return false;
                }
            }
            return true;
        }

        List<Body> order(Body me) {
            List<Body> seen = new ArrayList<>();
            for (Body b : everybody()) {
                if (b != me && b.there && sees(me, b)) {
                    seen.add(b);
                }
            }
            Comparator<Body> c = Comparator.comparingInt(b -> b.distance(me.x, me.y));
            c = c.thenComparing(b -> b.number >= 12);
            c = c.thenComparing(Comparator.comparingInt((Body b) -> b.age).reversed());
            c = c.thenComparingInt(b -> b.number);
            seen.sort(c);
            return seen;
        }

        int toGate(int x, int y) {
            if (!ground(x, y)) {
                return 99;
            }
            boolean[][] reached = new boolean[12][12];
            reached[y][x] = true;
            for (int n = 0; n < 99; n++) {
                boolean[][] more = new boolean[12][12];
                for (int cy = 0; cy < rows.size(); cy++) {
                    for (int cx = 0; cx < columns(); cx++) {
                        if (reached[cy][cx] && sign(cx, cy) == 'G') {
                            return n;
                        }
                        for (int[] w : WAYS) {
                            if (has(cx + w[0], cy + w[1]) && reached[cy + w[1]][cx + w[0]] && ground(cx, cy)) {
                                more[cy][cx] = true;
                            }
                        }
                    }
                }
                for (int cy = 0; cy < 12; cy++) {
                    for (int cx = 0; cx < 12; cx++) {
                        reached[cy][cx] |= more[cy][cx];
                    }
                }
            }
            return 99;
        }

        long word(String word, int person) {
            Body me = people.get(person);
            List<Body> seen = order(me);
            switch (word) {
                case "x":
                    return me.x;
                case "y":
                    return me.y;
                case "age":
                    return me.age;
                case "sort":
                    return me.sort;
                case "seen":
                    return seen.size();
                case "near":
                    return seen.isEmpty() ? 0 : seen.get(0).distance(me.x, me.y);
                case "gate":
                    return toGate(me.x, me.y);
                case "beside":
                    int n = 0;
                    for (int[] w : WAYS) {
                        n += who(me.x + w[0], me.y + w[1]) != null ? 1 : 0;
                    }
                    return n;
                case "elder":
                    for (Body b : seen) {
                        if (b.number < 12 && b.age > me.age) {
                            return 0;
                        }
                    }
                    return 1;
                default:
                    throw new IllegalStateException(word);
            }
        }

        Body followed(List<Clause> law, int person) {
            Body me = people.get(person);
            if (!me.there) {
                return null;
            }
            for (Clause c : law) {
                if (c.test() == null || c.test().of(this, person)) {
                    List<Body> seen = order(me);
                    return c.place() == 0 || c.place() > seen.size() ? null : seen.get(c.place() - 1);
                }
            }
            return null;
        }

        /** Who went; whom each one followed is put down, if wanted. */
        int step(List<Clause> law, int[] followed) {
            steps++;
            int went = 0;
            for (Body me : people) {
                if (!me.there) {
                    continue;
                }
                Body aim = followed(law, me.number);
                if (followed != null && aim != null) {
                    followed[me.number] = aim.number;
                }
                if (aim != null) {
                    int[] best = null;
                    for (int[] w : WAYS) {
                        if (free(me.x + w[0], me.y + w[1])) {
                            int d = aim.distance(me.x + w[0], me.y + w[1]);
                            if (best == null || d < aim.distance(me.x + best[0], me.y + best[1])) {
                                best = w;
                            }
                        }
                    }
                    if (best != null && aim.distance(me.x + best[0], me.y + best[1]) < aim.distance(me.x, me.y)) {
                        me.x += best[0];
                        me.y += best[1];
                        went++;
                    }
                }
                if (sign(me.x, me.y) == 'G') {
                    me.there = false;
                    me.out = steps;
                }
            }
            return went;
        }

        World walked(List<Clause> law, int n) {
            World w = copy();
            for (int i = 0; i < n; i++) {
                w.step(law, null);
            }
            return w;
        }

        boolean goBy(Body b, int way) {
            int x = b.x + WAYS[way][0];
            int y = b.y + WAYS[way][1];
            if (!free(x, y)) {
                return false;
            }
            b.x = x;
            b.y = y;
            return true;
        }
    }

    private StringBuilder tape = new StringBuilder();
    private World now = new World();
    private final List<List<Clause>> laws = new ArrayList<>();
    private final World[] images = new World[4];

    // ---- texts

    private static List<Piece> pieces(String text) {
        List<Piece> list = new ArrayList<>();
        int i = 0;
        while (i < text.length()) {
            char c = text.charAt(i);
            int j = i + 1;
            if (c == ' ') {
                i++;
                continue;
            }
            if (c >= 'a' && c <= 'z') {
                while (j < text.length() && text.charAt(j) >= 'a' && text.charAt(j) <= 'z') {
                    j++;
                }
            } else if (c >= '0' && c <= '9') {
                while (j < text.length() && text.charAt(j) >= '0' && text.charAt(j) <= '9') {
                    j++;
                }
            } else if (c == '<' || c == '>') {
                j += j < text.length() && text.charAt(j) == '=' ? 1 : 0;
            } else if (".#~G".indexOf(c) >= 0) {
                while (j < text.length() && ".#~G".indexOf(text.charAt(j)) >= 0) {
                    j++;
                }
            }
            list.add(new Piece(text.substring(i, j), i));
            i = j;
        }
        list.add(new Piece("", text.length()));
        return list;
    }

    private static final class Reader {
        final List<Piece> pieces;
        int i;
        int size;

        Reader(String text) {
            pieces = pieces(text);
        }

        Piece peek() {
            return pieces.get(i);
        }

        Piece next() {
            Piece p = pieces.get(i);
            if (i < pieces.size() - 1) {
                i++;
            }
            return p;
        }

        int number(int least, int most) throws Fault {
            Piece p = next();
            if (!p.isNumber()) {
                throw new Fault(p.place(), 0);
            }
            if (p.text().length() > 5 || Integer.parseInt(p.text()) < least || Integer.parseInt(p.text()) > most) {
                throw new Fault(p.place(), 1);
            }
            return Integer.parseInt(p.text());
        }

        /** Behind a clause: whether there is another one. */
        boolean another() throws Fault {
            Piece p = next();
            if (p.is(";")) {
                return true;
            }
            if (p.text().isEmpty()) {
                return false;
            }
            throw new Fault(p.place(), 0);
        }
    }

    private static World readPlain(String text) throws Fault {
        World w = new World();
        Reader r = new Reader(text);
        int clauses = 0;
        do {
            Piece p = r.next();
            if (!p.is("row") && !p.is("person") && !p.is("herald")) {
                throw new Fault(p.place(), 0);
            }
            boolean row = p.is("row");
            boolean many = row ? w.rows.size() == 12 : p.is("person") ? w.people.size() == 12 : w.heralds.size() == 2;
            if (++clauses > 32 || many || row && !w.everybody().isEmpty() || !row && w.rows.isEmpty()) {
                throw new Fault(p.place(), 4);
            }
            if (row) {
                Piece signs = r.next();
                int n = signs.text().length();
                if (n == 0 || ".#~G".indexOf(signs.text().charAt(0)) < 0) {
                    throw new Fault(signs.place(), 0);
                }
                if (n > 12) {
                    throw new Fault(signs.place() + 12, 5);
                }
                if (!w.rows.isEmpty() && n != w.columns()) {
                    throw new Fault(signs.place() + n - 1, 5);
                }
                w.rows.add(signs.text().toCharArray());
                continue;
            }
            Body b = new Body();
            int place = r.peek().place();
            b.x = r.number(0, 11);
            b.y = r.number(0, 11);
            if (!w.free(b.x, b.y)) {
                throw new Fault(place, 5);
            }
            if (p.is("person")) {
                b.age = r.number(0, 99);
                b.sort = r.number(0, 9);
                b.number = w.people.size();
                w.people.add(b);
            } else {
                b.number = 12 + w.heralds.size();
                w.heralds.add(b);
            }
        } while (r.another());
        return w;
    }

    private static List<Clause> readLaw(String text) throws Fault {
        List<Clause> law = new ArrayList<>();
        Reader r = new Reader(text);
        do {
            Piece p = r.next();
            if (!p.is("follow") && !p.is("stand")) {
                throw new Fault(p.place(), 0);
            }
            if (law.size() == 12) {
                throw new Fault(p.place(), 4);
            }
            int place = p.is("follow") ? r.number(1, 9) : 0;
            Test test = null;
            if (r.peek().is("if")) {
                r.next();
                test = readTest(r, 0);
            }
            law.add(new Clause(place, test));
        } while (r.another());
        return law;
    }

    private static Test readTest(Reader r, int depth) throws Fault {
        List<Test> parts = new ArrayList<>();
        parts.add(readPart(r, depth));
        while (r.peek().is("or")) {
            r.next();
            parts.add(readPart(r, depth));
        }
        return (w, p) -> parts.stream().anyMatch(t -> t.of(w, p));
    }

    private static Test readPart(Reader r, int depth) throws Fault {
        List<Test> facts = new ArrayList<>();
        facts.add(readFact(r, depth));
        while (r.peek().is("and")) {
            r.next();
            facts.add(readFact(r, depth));
        }
        return (w, p) -> facts.stream().allMatch(t -> t.of(w, p));
    }

    private static Test readFact(Reader r, int depth) throws Fault {
        Piece first = r.peek();
        if (first.is("not") || first.is("[")) {
            r.next();
            if (depth + 1 > 10) {
                throw new Fault(first.place(), 2);
            }
            if (first.is("not")) {
                Test t = readFact(r, depth + 1);
                return (w, p) -> !t.of(w, p);
            }
            Test t = readTest(r, depth + 1);
            Piece last = r.next();
            if (!last.is("]")) {
                throw new Fault(last.place(), 0);
            }
            return t;
        }
        Sum a = readSum(r);
        Piece sign = r.next();
        if (!List.of("<", "<=", "=", ">=", ">").contains(sign.text())) {
            throw new Fault(sign.place(), 0);
        }
        if (++r.size > 60) {
            throw new Fault(sign.place(), 3);
        }
        Sum b = readSum(r);
        switch (sign.text()) {
            case "<":
                return (w, p) -> a.of(w, p) < b.of(w, p);
            case "<=":
                return (w, p) -> a.of(w, p) <= b.of(w, p);
            case "=":
                return (w, p) -> a.of(w, p) == b.of(w, p);
            case ">=":
                return (w, p) -> a.of(w, p) >= b.of(w, p);
            default:
                return (w, p) -> a.of(w, p) > b.of(w, p);
        }
    }

    private static Sum readSum(Reader r) throws Fault {
        Sum sum = readTerm(r);
        while (r.peek().is("+") || r.peek().is("-")) {
            boolean plus = r.next().is("+");
            Sum a = sum;
            Sum b = readTerm(r);
            sum = plus ? (w, p) -> a.of(w, p) + b.of(w, p) : (w, p) -> a.of(w, p) - b.of(w, p);
        }
        return sum;
    }

    private static Sum readTerm(Reader r) throws Fault {
        Sum term = readValue(r);
        while (r.peek().is("*") || r.peek().is("/") || r.peek().is("%")) {
            String sign = r.next().text();
            Sum a = term;
            Sum b = readValue(r);
            term = (w, p) -> {
                long m = a.of(w, p);
                long n = b.of(w, p);
                if (sign.equals("*")) {
                    return m * n;
                }
                if (n == 0) {
                    return 0;
                }
                return sign.equals("/") ? m / n : m - m / n * n;
            };
        }
        return term;
    }

    private static Sum readValue(Reader r) throws Fault {
        Piece p = r.next();
        boolean word = List.of("x", "y", "age", "sort", "seen", "near", "gate", "beside", "elder").contains(p.text());
        if (!word && !p.isNumber()) {
            throw new Fault(p.place(), 0);
        }
        if (!word && p.text().length() > 5) {
            throw new Fault(p.place(), 1);
        }
        if (++r.size > 60) {
            throw new Fault(p.place(), 3);
        }
        if (word) {
            return (w, who) -> w.word(p.text(), who);
        }
        long number = Long.parseLong(p.text());
        return (w, who) -> number;
    }

    // ---- the face

    int feed(int a, int b, int c, int d, int e) {
        if (tape.length() > 380) {
            return NONE;
        }
        for (int four : new int[] {a, b, c, d, e}) {
            tape.append((char) (four >> 24 & 255)).append((char) (four >> 16 & 255));
            tape.append((char) (four >> 8 & 255)).append((char) (four & 255));
        }
        return tape.length();
    }

    int end(int n) {
        if (n < 0 || n > tape.length()) {
            return NONE;
        }
        tape.setLength(n);
        return n;
    }

    int plain() {
        String text = tape.toString();
        tape.setLength(0);
        try {
            now = readPlain(text);
            return now.people.size();
        } catch (Fault f) {
            return -2 - f.number;
        }
    }

    int law() {
        if (laws.size() == 6) {
            return NONE;
        }
        String text = tape.toString();
        tape.setLength(0);
        try {
            laws.add(readLaw(text));
            return laws.size() - 1;
        } catch (Fault f) {
            return -2 - f.number;
        }
    }

    private boolean ready(int law) {
        return !now.rows.isEmpty() && law >= 0 && law < laws.size();
    }

    private static boolean in(int n, int least, int most) {
        return n >= least && n <= most;
    }

    private boolean isPerson(int p) {
        return in(p, 0, now.people.size() - 1);
    }

    int person(int person, int what) {
        if (!isPerson(person) || !in(what, 0, 4)) {
            return NONE;
        }
        Body b = now.people.get(person);
        return what == 2 ? b.age : what == 3 ? b.sort : what == 4 ? b.out : !b.there ? NONE : what == 0 ? b.x : b.y;
    }

    int herald(int herald, int what) {
        if (!in(herald, 0, now.heralds.size() - 1) || !in(what, 0, 1)) {
            return NONE;
        }
        return what == 0 ? now.heralds.get(herald).x : now.heralds.get(herald).y;
    }

    int cell(int x, int y, int what) {
        if (!now.has(x, y) || !in(what, 0, 2)) {
            return NONE;
        }
        Body b = now.who(x, y);
        return what == 0 ? ".#~G".indexOf(now.sign(x, y)) : what == 2 ? now.toGate(x, y) : b == null ? NONE : b.number;
    }

    int sees(int who) {
        Body b = now.body(who);
        return b == null ? NONE : !b.there ? -2 : now.order(b).size();
    }

    int seen(int who, int place) {
        Body b = now.body(who);
        if (b == null || place < 1) {
            return NONE;
        }
        return !b.there || place > now.order(b).size() ? -2 : now.order(b).get(place - 1).number;
    }

    boolean goes(int herald, int way) {
        return in(herald, 0, now.heralds.size() - 1) && in(way, 0, 7) && now.goBy(now.heralds.get(herald), way);
    }

    int tick(int law, int n) {
        if (!ready(law) || !in(n, 1, 200)) {
            return NONE;
        }
        now = now.walked(laws.get(law), n);
        return now.steps;
    }

    int follows(int law, int person) {
        if (!ready(law) || !isPerson(person)) {
            return NONE;
        }
        Body b = now.followed(laws.get(law), person);
        return b == null ? -2 : b.number;
    }

    int ahead(int law, int n, int what) {
        if (!ready(law) || !in(n, 0, 200) || !in(what, 0, 1 + now.people.size())) {
            return NONE;
        }
        if (what == 0) {
            return now.walked(laws.get(law), n).outs();
        }
        if (what == 1) {
            return n == 0 ? 0 : now.walked(laws.get(law), n - 1).step(laws.get(law), null);
        }
        for (int i = 0; i <= n; i++) {
            if (!now.walked(laws.get(law), i).people.get(what - 2).there) {
                return i;
            }
        }
        return -2;
    }

    int round(int law, int what) {
        if (!ready(law) || !in(what, 0, 1)) {
            return NONE;
        }
        List<String> situations = new ArrayList<>();
        World w = now.copy();
        for (int i = 0; i <= 400; i++) {
            situations.add(w.situation());
            w.step(laws.get(law), null);
        }
        for (int i = 0; i < 400; i++) {
            for (int k = i + 1; k <= 400; k++) {
                if (situations.get(i).equals(situations.get(k))) {
                    return what == 0 ? i : k - i;
                }
            }
        }
        return -2;
    }

    int files(int law, int what) {
        if (!ready(law) || !in(what, 0, 2)) {
            return NONE;
        }
        int longest = 0;
        List<List<Integer>> rings = new ArrayList<>();
        for (Body b : now.people) {
            List<Integer> file = new ArrayList<>();
            int next = b.there ? b.number : NONE;
            while (in(next, 0, 11) && !file.contains(next)) {
                file.add(next);
                Body f = now.followed(laws.get(law), next);
                next = f == null ? NONE : f.number;
            }
            longest = Math.max(longest, file.size());
            if (!file.isEmpty() && next == b.number) {
                file.sort(null);
                if (!rings.contains(file)) {
                    rings.add(file);
                }
            }
        }
        int bits = 0;
        for (List<Integer> ring : rings) {
            for (int p : ring) {
                bits |= 1 << p;
            }
        }
        return what == 0 ? longest : what == 1 ? rings.size() : bits;
    }

    int without(int law, int who, int n) {
        Body b = now.body(who);
        if (!ready(law) || b == null || !b.there || !in(n, 0, 200)) {
            return NONE;
        }
        World with = now.walked(laws.get(law), n);
        World other = now.copy();
        other.body(who).there = false;
        other = other.walked(laws.get(law), n);
        int differ = 0;
        for (Body p : with.people) {
            differ += p.number != who && !p.where().equals(other.body(p.number).where()) ? 1 : 0;
        }
        return differ;
    }

    int leader(int law, int n, int what) {
        if (!ready(law) || !in(n, 0, 200) || !in(what, 0, 1)) {
            return NONE;
        }
        int best = -2;
        int most = -2;
        for (Body b : now.everybody()) {
            int m = without(law, b.number, n);
            if (b.there && m > most) {
                most = m;
                best = b.number;
            }
        }
        return what == 0 ? best : most;
    }

    int post(int law, int n, int what) {
        if (!ready(law) || !in(n, 0, 60) || !in(what, 0, 1) || now.heralds.isEmpty()) {
            return NONE;
        }
        int best = NONE;
        int most = NONE;
        for (int y = 0; y < now.rows.size(); y++) {
            for (int x = 0; x < now.columns(); x++) {
                World w = now.copy();
                w.heralds.get(0).there = false;
                if (!w.free(x, y)) {
                    continue;
                }
                w.heralds.get(0).there = true;
                w.heralds.get(0).x = x;
                w.heralds.get(0).y = y;
                int outs = w.walked(laws.get(law), n).outs();
                if (outs > most) {
                    most = outs;
                    best = 12 * y + x;
                }
            }
        }
        return what == 0 ? best : most;
    }

    int lead(int law, int n, int m, int what) {
        if (!ready(law) || !in(n, 0, 3) || !in(m, 0, 12) || !in(what, 0, 3) || now.heralds.isEmpty()) {
            return NONE;
        }
        int[] best = bestCourse(now, laws.get(law), n, m);
        return what > n ? -2 : best[what];
    }

    private static int[] bestCourse(World w, List<Clause> law, int n, int m) {
        if (n == 0) {
            return new int[] {w.walked(law, m).outs()};
        }
        int[] best = null;
        for (int way = 0; way <= 8; way++) {
            World next = w.copy();
            if (way < 8 && !next.goBy(next.heralds.get(0), way)) {
                continue;
            }
            next.step(law, null);
            int[] rest = bestCourse(next, law, n - 1, m);
            if (best == null || rest[0] > best[0]) {
                best = new int[n + 1];
                best[0] = rest[0];
                best[1] = way;
                System.arraycopy(rest, 1, best, 2, n - 1);
            }
        }
        return best;
    }

    int wall(int law, int n) {
        if (!ready(law) || !in(n, 0, 60)) {
            return NONE;
        }
        for (int y = 0; y < now.rows.size(); y++) {
            for (int x = 0; x < now.columns(); x++) {
                if (now.free(x, y) && now.sign(x, y) == '.') {
                    World w = now.copy();
                    w.rows.get(y)[x] = '#';
                    if (w.walked(laws.get(law), n).outs() == w.people.size()) {
                        return 12 * y + x;
                    }
                }
            }
        }
        return -2;
    }

    int ago(int law) {
        if (!ready(law)) {
            return NONE;
        }
        List<Integer> there = new ArrayList<>();
        for (Body b : now.people) {
            if (b.there) {
                there.add(b.number);
            }
        }
        if (there.size() > 3 || now.rows.size() * now.columns() > 36) {
            return -2;
        }
        World w = now.copy();
        for (int p : there) {
            w.people.get(p).there = false;
        }
        return countAgo(w, laws.get(law), there, 0);
    }

    private int countAgo(World w, List<Clause> law, List<Integer> there, int i) {
        if (i == there.size()) {
            return w.walked(law, 1).situation().equals(now.situation()) ? 1 : 0;
        }
        int n = 0;
        Body b = w.people.get(there.get(i));
        for (int y = 0; y < w.rows.size(); y++) {
            for (int x = 0; x < w.columns(); x++) {
                if (w.free(x, y)) {
                    b.there = true;
                    b.x = x;
                    b.y = y;
                    n += countAgo(w, law, there, i + 1);
                    b.there = false;
                }
            }
        }
        return n;
    }

    int spoor(int step, int person, int other) {
        if (person == NONE) {
            now.spoors.clear();
            return 0;
        }
        if (!in(step, 1, 200) || !isPerson(person) || now.body(other) == null || other == person || now.spoors.size() == 40) {
            return -2;
        }
        now.spoors.add(new int[] {step, person, other});
        return now.spoors.size();
    }

    int judged(int law) {
        if (!ready(law)) {
            return NONE;
        }
        for (int i = 0; i < now.spoors.size(); i++) {
            int[] s = now.spoors.get(i);
            int[] followed = new int[12];
            Arrays.fill(followed, NONE);
            now.walked(laws.get(law), s[0] - 1).step(laws.get(law), followed);
            if (followed[s[1]] != s[2]) {
                return i;
            }
        }
        return -2;
    }

    int bestLaw(int n) {
        if (now.rows.isEmpty() || !in(n, 0, 200)) {
            return NONE;
        }
        int best = -2;
        for (int i = 0; i < laws.size(); i++) {
            if (best < 0 || ahead(i, n, 0) > ahead(best, n, 0)) {
                best = i;
            }
        }
        return best;
    }

    int count(int what) {
        int gates = 0;
        for (char[] row : now.rows) {
            for (char c : row) {
                gates += c == 'G' ? 1 : 0;
            }
        }
        int[] counts = {now.columns(), now.rows.size(), now.people.size(), now.heralds.size(), now.steps, now.outs(),
            now.spoors.size(), laws.size(), tape.length(), gates};
        return in(what, 0, 9) ? counts[what] : NONE;
    }

    int image(int k) {
        if (!in(k, 0, 3)) {
            return NONE;
        }
        images[k] = now.copy();
        return now.steps;
    }

    int back(int k) {
        if (!in(k, 0, 3) || images[k] == null) {
            return NONE;
        }
        now = images[k].copy();
        return now.steps;
    }
}
