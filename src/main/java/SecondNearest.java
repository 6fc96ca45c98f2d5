import java.util.Arrays;

/**
 * People on a plain of cells, each of whom goes after one of those he sees, by laws told in a language.
 * The words in capitals are those of the document.
 */
public final class SecondNearest {
    public static final int NONE = -1;

    /** What the document answers where something is asked rightly, but there is nothing to tell. */
    private static final int NOTHING = -2;

    private static final int SIDE = 12;
    private static final int CELLS = 144;
    private static final int PEOPLE = 12;
    private static final int HERALDS = 2;
    private static final int ALL = 14;
    private static final int LAWS = 6;
    private static final int IMAGES = 4;
    private static final int SPOORS = 40;
    private static final int FAR = 99;
    private static final int LONGEST = 200;
    private static final int LONGEST_TRIAL = 60;
    private static final int LONGEST_ROUND = 400;

    private static final int OPEN_PLAIN = 0;
    private static final int WALL = 1;
    private static final int POND = 2;
    private static final int GATE = 3;

    private static final int WAYS = 8;
    private static final int[] WAY_X = {0, 1, 1, 1, 0, -1, -1, -1};
    private static final int[] WAY_Y = {-1, -1, 0, 1, 1, 1, 0, -1};

    /** With standing still there are nine choices: how many courses of 0 to 3 choices there are. */
    private static final int CHOICES = 9;
    private static final int[] COURSES = {1, 9, 81, 729};

    private static final int FAULT_SIGN = 0;
    private static final int FAULT_NUMBER = 1;
    private static final int FAULT_DEPTH = 2;
    private static final int FAULT_SIZE = 3;
    private static final int FAULT_CLAUSE = 4;
    private static final int FAULT_PLACE = 5;

    /** The signs of a LAW's code: WORDS of a PERSON as the reader lists them, what works on values, then NUMBERS. */
    private static final int WORD_X = 0;
    private static final int WORD_Y = 1;
    private static final int WORD_AGE = 2;
    private static final int WORD_SORT = 3;
    private static final int WORD_SEEN = 4;
    private static final int WORD_NEAR = 5;
    private static final int WORD_GATE = 6;
    private static final int WORD_BESIDE = 7;
    private static final int WORD_ELDER = 8;
    private static final int PLUS = 10;
    private static final int MINUS = 11;
    private static final int TIMES = 12;
    private static final int BY = 13;
    private static final int REST = 14;
    private static final int LESS = 15;
    private static final int AT_MOST = 16;
    private static final int LIKE = 17;
    private static final int AT_LEAST = 18;
    private static final int MORE = 19;
    private static final int AND = 20;
    private static final int OR = 21;
    private static final int NOT = 22;
    private static final int NUMBER = 32;

    private final Tape tape;
    private final Scene now;
    private final Scene draft;
    private final PlainReader plainReader;
    private final LawReader lawReader;
    private final Law[] laws;
    private int lawCount;
    private final Ground ground;
    private final Walker walker;
    private final Planner planner;
    private final Scene[] images;
    private final boolean[] made;

    public SecondNearest() {
        tape = new Tape();
        now = new Scene();
        draft = new Scene();
        plainReader = new PlainReader(tape, draft);
        lawReader = new LawReader(tape);
        laws = new Law[LAWS];
        for (int i = 0; i < LAWS; i++) {
            laws[i] = new Law();
        }
        lawCount = 0;
        ground = new Ground();
        walker = new Walker(ground);
        planner = new Planner(now, walker, ground);
        images = new Scene[IMAGES];
        for (int i = 0; i < IMAGES; i++) {
            images[i] = new Scene();
        }
        made = new boolean[IMAGES];
    }

    public int feed(int a, int b, int c, int d, int e) {
        if (!tape.hasRoom(20)) {
            return NONE;
        }
        tape.add(a);
        tape.add(b);
        tape.add(c);
        tape.add(d);
        tape.add(e);
        return tape.length;
    }

    public int end(int n) {
        if (n < 0 || n > tape.length) {
            return NONE;
        }
        tape.length = n;
        return n;
    }

    public int plain() {
        int fault = plainReader.read();
        tape.length = 0;
        if (fault != 0) {
            return NOTHING - fault;
        }
        now.copyAll(draft);
        ground.survey(now);
        return now.people;
    }

    public int law() {
        if (lawCount < 0 || lawCount >= LAWS) {
            return NONE;
        }
        int fault = lawReader.read(laws[lawCount]);
        tape.length = 0;
        if (fault != 0) {
            return NOTHING - fault;
        }
        lawCount++;
        return lawCount - 1;
    }

    public int person(int person, int what) {
        if (!now.isPerson(person)) {
            return NONE;
        }
        int place = now.at[person];
        switch (what) {
            case 0:
                return place < 0 ? NONE : place % SIDE;
            case 1:
                return place < 0 ? NONE : place / SIDE;
            case 2:
                return now.age[person];
            case 3:
                return now.sort[person];
            case 4:
                return now.out[person];
            default:
                return NONE;
        }
    }

    public int herald(int herald, int what) {
        if (!now.isHerald(herald) || what < 0 || what > 1) {
            return NONE;
        }
        int place = now.at[PEOPLE + herald];
        return what == 0 ? place % SIDE : place / SIDE;
    }

    public int cell(int x, int y, int what) {
        if (!now.isCell(x, y)) {
            return NONE;
        }
        int place = SIDE * y + x;
        switch (what) {
            case 0:
                return now.kinds[place];
            case 1:
                return now.standing[place];
            case 2:
                return ground.toGate[place];
            default:
                return NONE;
        }
    }

    public int sees(int who) {
        if (!now.isAnybody(who)) {
            return NONE;
        }
        if (now.at[who] < 0) {
            return NOTHING;
        }
        walker.look(now, who);
        return walker.sighted;
    }

    public int seen(int who, int place) {
        if (!now.isAnybody(who) || place < 1) {
            return NONE;
        }
        if (now.at[who] < 0) {
            return NOTHING;
        }
        walker.look(now, who);
        int other = walker.sightedAt(place);
        return other < 0 ? NOTHING : other;
    }

    public boolean goes(int herald, int way) {
        return now.isHerald(herald) && now.goBy(PEOPLE + herald, way);
    }

    public int tick(int law, int n) {
        if (!canWalk(law) || n < 1 || n > LONGEST) {
            return NONE;
        }
        walker.walk(now, laws[law], n);
        return now.steps;
    }

    public int follows(int law, int person) {
        if (!canWalk(law) || !now.isPerson(person)) {
            return NONE;
        }
        walker.askAll(now, laws[law]);
        int other = walker.followed[person];
        return other < 0 ? NOTHING : other;
    }

    public int ahead(int law, int n, int what) {
        if (!canWalk(law) || n < 0 || n > LONGEST || what < 0) {
            return NONE;
        }
        if (what > 1 && !now.isPerson(what - 2)) {
            return NONE;
        }
        return planner.foresee(laws[law], n, what);
    }

    public int round(int law, int what) {
        if (!canWalk(law) || what < 0 || what > 1) {
            return NONE;
        }
        return planner.findRound(laws[law], what);
    }

    public int files(int law, int what) {
        if (!canWalk(law) || what < 0 || what > 2) {
            return NONE;
        }
        walker.askAll(now, laws[law]);
        if (what == 0) {
            return planner.longestFile();
        }
        return planner.findRings(what == 2);
    }

    public int without(int law, int who, int n) {
        if (!canWalk(law) || n < 0 || n > LONGEST) {
            return NONE;
        }
        if (!now.isAnybody(who) || now.at[who] < 0) {
            return NONE;
        }
        return planner.missedBy(laws[law], who, n);
    }

    public int leader(int law, int n, int what) {
        if (!canWalk(law) || n < 0 || n > LONGEST || what < 0 || what > 1) {
            return NONE;
        }
        return planner.findLeader(laws[law], n, what);
    }

    public int post(int law, int n, int what) {
        if (!canWalk(law) || n < 0 || n > LONGEST_TRIAL || what < 0 || what > 1) {
            return NONE;
        }
        return now.heralds == 0 ? NONE : planner.findPost(laws[law], n, what);
    }

    public int lead(int law, int n, int m, int what) {
        if (!canWalk(law) || n < 0 || n > 3 || m < 0 || m > 12) {
            return NONE;
        }
        if (what < 0 || what > 3 || now.heralds == 0) {
            return NONE;
        }
        return what > n ? NOTHING : planner.findCourse(laws[law], n, m, what);
    }

    public int wall(int law, int n) {
        if (!canWalk(law) || n < 0 || n > LONGEST_TRIAL) {
            return NONE;
        }
        return planner.findWall(laws[law], n);
    }

    public int ago(int law) {
        return canWalk(law) ? planner.countAgo(laws[law]) : NONE;
    }

    public int spoor(int step, int person, int other) {
        if (person == NONE) {
            now.spoors = 0;
            return 0;
        }
        if (step < 1 || step > LONGEST || !now.isPerson(person)) {
            return NOTHING;
        }
        if (!now.isAnybody(other) || other == person || now.spoors >= SPOORS) {
            return NOTHING;
        }
        now.addSpoor(step, person, other);
        return now.spoors;
    }

    public int judged(int law) {
        return canWalk(law) ? planner.judge(laws[law]) : NONE;
    }

    public int bestLaw(int n) {
        if (now.rows == 0 || n < 0 || n > LONGEST) {
            return NONE;
        }
        int best = NOTHING;
        int most = NONE;
        for (int i = 0; i < lawCount && i < LAWS; i++) {
            int out = planner.foresee(laws[i], n, 0);
            if (out > most) {
                most = out;
                best = i;
            }
        }
        return best;
    }

    public int count(int what) {
        switch (what) {
            case 0:
                return now.columns;
            case 1:
                return now.rows;
            case 2:
                return now.people;
            case 3:
                return now.heralds;
            case 4:
                return now.steps;
            case 5:
                return now.outCount;
            case 6:
                return now.spoors;
            case 7:
                return lawCount;
            case 8:
                return tape.length;
            case 9:
                return now.gates;
            default:
                return NONE;
        }
    }

    public int image(int k) {
        if (k < 0 || k >= IMAGES) {
            return NONE;
        }
        images[k].copyAll(now);
        made[k] = true;
        return now.steps;
    }

    public int back(int k) {
        if (k < 0 || k >= IMAGES || !made[k]) {
            return NONE;
        }
        now.copyAll(images[k]);
        ground.survey(now);
        return now.steps;
    }

    private boolean canWalk(int law) {
        return now.rows > 0 && law >= 0 && law < lawCount && law < LAWS;
    }

    /** The bytes that were fed, and a reader's place along them with the first FAULT it met. */
    private static final class Tape {
        static final int ROOM = 400;
        static final int DIGITS = 5;

        final byte[] bytes = new byte[ROOM];
        int length;
        int place;
        int fault;

        boolean hasRoom(int more) {
            return length + more <= ROOM;
        }

        void add(int four) {
            for (int shift = 24; shift >= 0 && length < ROOM; shift -= 8) {
                bytes[length] = (byte) (four >>> shift);
                length++;
            }
        }

        void rewind() {
            place = 0;
            fault = 0;
        }

        /** The byte at the place, NONE behind the last one. */
        int here() {
            return place < length && place < ROOM ? bytes[place] & 255 : NONE;
        }

        /** Goes over blanks and tells the place behind them. */
        int skip() {
            while (place < length && place < ROOM && bytes[place] == ' ') {
                place++;
            }
            return place;
        }

        /** Keeps the FAULT, unless there is one already; false, so that a reader can end with it. */
        boolean blame(int where, int kind) {
            if (fault == 0) {
                fault = 1 + 8 * where + kind;
            }
            return false;
        }

        boolean take(char sign) {
            skip();
            if (here() != sign) {
                return false;
            }
            place++;
            return true;
        }

        /** Takes a word, as far as small letters go on: its number in a list; NONE, and it stays, if it isn't there. */
        int takeWord(String list) {
            int start = skip();
            int end = start;
            while (end < length && end < ROOM && bytes[end] >= 'a' && bytes[end] <= 'z') {
                end++;
            }
            int number = 0;
            int at = start;
            boolean alike = true;
            for (int i = 0; i <= list.length(); i++) {
                if (i < list.length() && list.charAt(i) != ' ') {
                    alike = alike && at < end && bytes[at] == list.charAt(i);
                    at++;
                    continue;
                }
                if (alike && at == end) {
                    place = end;
                    return number;
                }
                number++;
                at = start;
                alike = true;
            }
            return NONE;
        }

        boolean onDigit() {
            return place < length && place < ROOM && bytes[place] >= '0' && bytes[place] <= '9';
        }

        /** A NUMBER within the bounds, NONE with a FAULT. */
        int takeNumber(int least, int most) {
            int start = skip();
            int value = 0;
            while (place < ROOM && onDigit()) {
                if (place - start < DIGITS) {
                    value = 10 * value + bytes[place] - '0';
                }
                place++;
            }
            if (place == start) {
                blame(start, FAULT_SIGN);
                return NONE;
            }
            if (place - start > DIGITS || value < least || value > most) {
                blame(start, FAULT_NUMBER);
                return NONE;
            }
            return value;
        }

        /** Whether all is read but blanks; if not, the next sign is the FAULT. */
        boolean isRead() {
            return skip() >= length || blame(place, FAULT_SIGN);
        }
    }

    /** All that an IMAGE keeps: the rows, PEOPLE and HERALDS, STEPS and SPOORS. No rows: there is no PLAIN. */
    private static final class Scene {
        int columns;
        int rows;
        int gates;
        int people;
        int heralds;
        int steps;
        int outCount;
        int spoors;
        final byte[] kinds = new byte[CELLS];
        final byte[] standing = new byte[CELLS];
        /** Where PEOPLE and, from PEOPLE on, HERALDS stand; NONE: not there. */
        final int[] at = new int[ALL];
        final int[] age = new int[PEOPLE];
        final int[] sort = new int[PEOPLE];
        final int[] out = new int[PEOPLE];
        final int[] spoorStep = new int[SPOORS];
        final int[] spoorPerson = new int[SPOORS];
        final int[] spoorOther = new int[SPOORS];

        Scene() {
            wipe();
        }

        void wipe() {
            columns = 0;
            rows = 0;
            gates = 0;
            people = 0;
            heralds = 0;
            steps = 0;
            outCount = 0;
            spoors = 0;
            Arrays.fill(standing, (byte) NONE);
            Arrays.fill(at, NONE);
            Arrays.fill(out, NONE);
        }

        void copyAll(Scene from) {
            columns = from.columns;
            rows = from.rows;
            gates = from.gates;
            people = from.people;
            heralds = from.heralds;
            spoors = from.spoors;
            System.arraycopy(from.kinds, 0, kinds, 0, CELLS);
            System.arraycopy(from.age, 0, age, 0, PEOPLE);
            System.arraycopy(from.sort, 0, sort, 0, PEOPLE);
            System.arraycopy(from.spoorStep, 0, spoorStep, 0, SPOORS);
            System.arraycopy(from.spoorPerson, 0, spoorPerson, 0, SPOORS);
            System.arraycopy(from.spoorOther, 0, spoorOther, 0, SPOORS);
            copyPlaces(from);
        }

        /** Only what a STEP changes. */
        void copyPlaces(Scene from) {
            steps = from.steps;
            outCount = from.outCount;
            System.arraycopy(from.standing, 0, standing, 0, CELLS);
            System.arraycopy(from.at, 0, at, 0, ALL);
            System.arraycopy(from.out, 0, out, 0, PEOPLE);
        }

        boolean isPerson(int person) {
            return person >= 0 && person < people && person < PEOPLE;
        }

        boolean isHerald(int herald) {
            return herald >= 0 && herald < heralds && herald < HERALDS;
        }

        boolean isAnybody(int who) {
            return isPerson(who) || who >= PEOPLE && isHerald(who - PEOPLE);
        }

        boolean isCell(int x, int y) {
            return x >= 0 && y >= 0 && x < columns && y < rows && x < SIDE && y < SIDE;
        }

        boolean isFree(int x, int y) {
            if (!isCell(x, y)) {
                return false;
            }
            int place = SIDE * y + x;
            return isGround(kinds[place]) && standing[place] < 0;
        }

        /** The CELL by a WAY from a place; NONE beyond the rows. */
        int beside(int place, int way) {
            if (place < 0 || place >= CELLS || way < 0 || way >= WAYS) {
                return NONE;
            }
            int x = place % SIDE + WAY_X[way];
            int y = place / SIDE + WAY_Y[way];
            return isCell(x, y) ? SIDE * y + x : NONE;
        }

        /** Somebody leaves where he is, if he is there. */
        void lift(int who) {
            if (who >= 0 && who < ALL && at[who] >= 0 && at[who] < CELLS) {
                standing[at[who]] = NONE;
                at[who] = NONE;
            }
        }

        void put(int who, int place) {
            if (who >= 0 && who < ALL && place >= 0 && place < CELLS) {
                lift(who);
                at[who] = place;
                standing[place] = (byte) who;
            }
        }

        boolean goBy(int who, int way) {
            if (who < 0 || who >= ALL) {
                return false;
            }
            int place = beside(at[who], way);
            if (place < 0 || !isFree(place % SIDE, place / SIDE)) {
                return false;
            }
            put(who, place);
            return true;
        }

        void addSpoor(int step, int person, int other) {
            if (spoors >= 0 && spoors < SPOORS) {
                spoorStep[spoors] = step;
                spoorPerson[spoors] = person;
                spoorOther[spoors] = other;
                spoors++;
            }
        }

        static boolean isGround(int kind) {
            return kind == OPEN_PLAIN || kind == GATE;
        }
    }

    /** Reads the TAPE as a PLAIN. */
    private static final class PlainReader {
        private final Tape tape;
        private final Scene scene;

        PlainReader(Tape tape, Scene scene) {
            this.tape = tape;
            this.scene = scene;
        }

        /** The FAULT, 0 without one. */
        int read() {
            tape.rewind();
            scene.wipe();
            boolean more = true;
            // 12 rows, 12 PEOPLE and 2 HERALDS are fewer than 32 CLAUSES: one of these limits is always met first
            for (int i = 0; more && i < Tape.ROOM; i++) {
                if (!takeClause()) {
                    return tape.fault;
                }
                more = tape.take(';');
            }
            return tape.isRead() ? 0 : tape.fault;
        }

        private boolean takeClause() {
            int start = tape.skip();
            switch (tape.takeWord("row person herald")) {
                case 0:
                    return takeRow(start);
                case 1:
                    return takePerson(start);
                case 2:
                    return takeHerald(start);
                default:
                    return tape.blame(start, FAULT_SIGN);
            }
        }

        private boolean takeRow(int start) {
            if (scene.rows >= SIDE || scene.people + scene.heralds > 0) {
                return tape.blame(start, FAULT_CLAUSE);
            }
            int first = tape.skip();
            for (int x = 0; x <= SIDE; x++) {
                int kind = kindOf(tape.here());
                if (kind < 0) {
                    break;
                }
                if (x == SIDE) {
                    return tape.blame(tape.place, FAULT_PLACE);
                }
                scene.kinds[SIDE * scene.rows + x] = (byte) kind;
                scene.gates += kind == GATE ? 1 : 0;
                tape.place++;
            }
            int width = tape.place - first;
            if (width == 0) {
                return tape.blame(first, FAULT_SIGN);
            }
            if (scene.rows > 0 && width != scene.columns) {
                return tape.blame(tape.place - 1, FAULT_PLACE);
            }
            scene.columns = width;
            scene.rows++;
            return true;
        }

        private boolean takePerson(int start) {
            if (scene.rows == 0 || scene.people >= PEOPLE) {
                return tape.blame(start, FAULT_CLAUSE);
            }
            int place = takePlace();
            int age = place < 0 ? NONE : tape.takeNumber(0, 99);
            int sort = age < 0 ? NONE : tape.takeNumber(0, 9);
            if (sort < 0) {
                return false;
            }
            scene.age[scene.people] = age;
            scene.sort[scene.people] = sort;
            scene.put(scene.people, place);
            scene.people++;
            return true;
        }

        private boolean takeHerald(int start) {
            if (scene.rows == 0 || scene.heralds >= HERALDS) {
                return tape.blame(start, FAULT_CLAUSE);
            }
            int place = takePlace();
            if (place < 0) {
                return false;
            }
            scene.put(PEOPLE + scene.heralds, place);
            scene.heralds++;
            return true;
        }

        /** A CELL for one more to stand on, NONE with a FAULT. */
        private int takePlace() {
            int start = tape.skip();
            int x = tape.takeNumber(0, SIDE - 1);
            int y = x < 0 ? NONE : tape.takeNumber(0, SIDE - 1);
            if (y < 0) {
                return NONE;
            }
            if (!scene.isFree(x, y)) {
                tape.blame(start, FAULT_PLACE);
                return NONE;
            }
            return SIDE * y + x;
        }

        private static int kindOf(int sign) {
            switch (sign) {
                case '.':
                    return OPEN_PLAIN;
                case '#':
                    return WALL;
                case '~':
                    return POND;
                case 'G':
                    return GATE;
                default:
                    return NONE;
            }
        }
    }

    /** CLAUSES, each with a place to follow (0: stand) and the code of its TEST, operands first (none: no TEST). */
    private static final class Law {
        static final int CLAUSES = 12;

        int clauses;
        final int[] places = new int[CLAUSES];
        final int[] testEnds = new int[CLAUSES];
        int length;
        final int[] code = new int[Tape.ROOM];

        void wipe() {
            clauses = 0;
            length = 0;
        }

        /** A sign of the code comes of at least one byte of the TAPE, so that there is room for all. */
        void emit(int sign) {
            if (length >= 0 && length < code.length) {
                code[length] = sign;
                length++;
            }
        }

        void closeClause(int place) {
            if (clauses >= 0 && clauses < CLAUSES) {
                places[clauses] = place;
                testEnds[clauses] = length;
                clauses++;
            }
        }
    }

    /** Reads the TAPE as a LAW. */
    private static final class LawReader {
        static final int DEEPEST = 10;
        static final int LARGEST = 60;

        private final Tape tape;
        private Law law;
        private int size;

        LawReader(Tape tape) {
            this.tape = tape;
        }

        /** The FAULT, 0 without one. */
        int read(Law into) {
            law = into;
            law.wipe();
            size = 0;
            tape.rewind();
            boolean more = true;
            for (int i = 0; more && i < Tape.ROOM; i++) {
                if (!takeClause()) {
                    return tape.fault;
                }
                more = tape.take(';');
            }
            return tape.isRead() ? 0 : tape.fault;
        }

        private boolean takeClause() {
            int start = tape.skip();
            int word = tape.takeWord("stand follow");
            if (word < 0) {
                return tape.blame(start, FAULT_SIGN);
            }
            if (law.clauses >= Law.CLAUSES) {
                return tape.blame(start, FAULT_CLAUSE);
            }
            int place = word == 0 ? 0 : tape.takeNumber(1, 9);
            if (place < 0) {
                return false;
            }
            if (tape.takeWord("if") == 0 && !takeTest(0)) {
                return false;
            }
            law.closeClause(place);
            return true;
        }

        /** FACTS with and, or between: an or waits until the ands behind it are told. */
        private boolean takeTest(int depth) {
            boolean waits = false;
            boolean good = takeFact(depth);
            for (int i = 0; good && i < Tape.ROOM; i++) {
                int word = tape.takeWord("and or");
                if (word < 0) {
                    break;
                }
                if (word == 1 && waits) {
                    law.emit(OR);
                }
                waits = waits || word == 1;
                good = takeFact(depth);
                if (word == 0) {
                    law.emit(AND);
                }
            }
            if (waits) {
                law.emit(OR);
            }
            return good;
        }

        private boolean takeFact(int depth) {
            int start = tape.skip();
            boolean bracket = tape.take('[');
            boolean not = !bracket && tape.takeWord("not") == 0;
            if ((bracket || not) && depth >= DEEPEST) {
                return tape.blame(start, FAULT_DEPTH);
            }
            if (bracket) {
                return takeTest(depth + 1) && (tape.take(']') || tape.blame(tape.place, FAULT_SIGN));
            }
            if (not) {
                boolean good = takeFact(depth + 1);
                law.emit(NOT);
                return good;
            }
            int sign = takeSum() ? takeComparing() : NONE;
            if (sign < 0 || !takeSum()) {
                return false;
            }
            law.emit(sign);
            return true;
        }

        /** The SIGN of a FACT, NONE with a FAULT. */
        private int takeComparing() {
            int start = tape.skip();
            boolean less = tape.take('<');
            boolean more = !less && tape.take('>');
            // no blank may part the two bytes of one SIGN
            boolean like = tape.here() == '=';
            if (like) {
                tape.place++;
            }
            if (!less && !more && !like) {
                tape.blame(start, FAULT_SIGN);
                return NONE;
            }
            if (!grow(start)) {
                return NONE;
            }
            if (less) {
                return like ? AT_MOST : LESS;
            }
            return !more ? LIKE : like ? AT_LEAST : MORE;
        }

        /** VALUES with + - * / % between: a + or - waits until the TERM behind it is told. */
        private boolean takeSum() {
            int waiting = NONE;
            boolean good = takeValue();
            for (int i = 0; good && i < Tape.ROOM; i++) {
                int sign = takeWorking();
                if (sign < 0) {
                    break;
                }
                boolean waits = sign == PLUS || sign == MINUS;
                if (waits && waiting >= 0) {
                    law.emit(waiting);
                }
                waiting = waits ? sign : waiting;
                good = takeValue();
                if (!waits) {
                    law.emit(sign);
                }
            }
            if (waiting >= 0) {
                law.emit(waiting);
            }
            return good;
        }

        private int takeWorking() {
            tape.skip();
            int sign = workingOf(tape.here());
            if (sign >= 0) {
                tape.place++;
            }
            return sign;
        }

        private static int workingOf(int sign) {
            switch (sign) {
                case '+':
                    return PLUS;
                case '-':
                    return MINUS;
                case '*':
                    return TIMES;
                case '/':
                    return BY;
                case '%':
                    return REST;
                default:
                    return NONE;
            }
        }

        private boolean takeValue() {
            int start = tape.skip();
            boolean digit = tape.onDigit();
            int value = digit ? tape.takeNumber(0, 99999) : tape.takeWord("x y age sort seen near gate beside elder");
            if (value < 0) {
                return tape.blame(start, FAULT_SIGN);
            }
            if (!grow(start)) {
                return false;
            }
            law.emit(digit ? NUMBER + value : value);
            return true;
        }

        private boolean grow(int start) {
            if (size >= LARGEST) {
                return tape.blame(start, FAULT_SIZE);
            }
            size++;
            return true;
        }
    }

    /** What follows from where WALLS, PONDS and GATES are: STEPS to a GATE, and which CELLS have none between. */
    private static final class Ground {
        /** A CELL's row of bits, one for each other CELL. */
        static final int WORDS = 3;

        final int[] toGate = new int[CELLS];
        private final int[] queue = new int[CELLS];
        /** Lines are looked along when first asked for: most pairs of CELLS never are. */
        private final long[] known = new long[CELLS * WORDS];
        private final long[] clear = new long[CELLS * WORDS];

        void survey(Scene scene) {
            Arrays.fill(known, 0L);
            Arrays.fill(clear, 0L);
            Arrays.fill(toGate, FAR);
            int end = 0;
            for (int place = 0; scene.gates > 0 && place < CELLS; place++) {
                if (scene.kinds[place] == GATE && scene.isCell(place % SIDE, place / SIDE)) {
                    toGate[place] = 0;
                    queue[end] = place;
                    end++;
                }
            }
            for (int i = 0; i < end && i < CELLS; i++) {
                for (int way = 0; way < WAYS; way++) {
                    int next = scene.beside(queue[i], way);
                    if (next >= 0 && end < CELLS && toGate[next] == FAR && Scene.isGround(scene.kinds[next])) {
                        toGate[next] = toGate[queue[i]] + 1;
                        queue[end] = next;
                        end++;
                    }
                }
            }
        }

        /** Whether no CELL between two is a WALL. */
        boolean isClear(byte[] kinds, int one, int other) {
            int from = Math.min(one, other);
            int to = Math.max(one, other);
            if (from < 0 || to >= CELLS || kinds.length < CELLS) {
                return false;
            }
            int word = from * WORDS + (to >> 6);
            long bit = 1L << (to & 63);
            if ((known[word] & bit) != 0) {
                return (clear[word] & bit) != 0;
            }
            known[word] |= bit;
            int dx = to % SIDE - from % SIDE;
            int dy = to / SIDE - from / SIDE;
            int n = Math.max(Math.abs(dx), Math.abs(dy));
            for (int k = 1; k < n; k++) {
                int x = from % SIDE + Math.floorDiv(2 * k * dx + n, 2 * n);
                int y = from / SIDE + Math.floorDiv(2 * k * dy + n, 2 * n);
                int place = SIDE * y + x;
                if (place >= 0 && place < CELLS && kinds[place] == WALL) {
                    return false;
                }
            }
            clear[word] |= bit;
            return true;
        }
    }

    /** Takes STEPS by a LAW, and keeps what was looked at in the last turn and what was done in the last STEP. */
    private static final class Walker {
        /** Ten brackets deep, a pending OR and AND in each, and a few sums: far fewer than this are ever open. */
        static final int STACK = 64;

        private final Ground ground;
        private final long[] stack = new long[STACK];
        /** Those SEEN: DISTANCE, then rank (the older the less, HERALDS last), then number, in one int each. */
        private final int[] order = new int[ALL];
        int sighted;
        private int beside;
        private boolean elder;
        final int[] followed = new int[PEOPLE];
        int went;

        Walker(Ground ground) {
            this.ground = ground;
        }

        /** So many STEPS; once nothing changes in one, nothing will in the others. */
        void walk(Scene scene, Law law, int n) {
            went = 0;
            for (int i = 1; i <= n; i++) {
                if (!step(scene, law)) {
                    scene.steps += n - i;
                    break;
                }
            }
        }

        /** One STEP: whether anybody went or came OUT. */
        boolean step(Scene scene, Law law) {
            int outBefore = scene.outCount;
            scene.steps++;
            went = 0;
            for (int person = 0; person < scene.people && person < PEOPLE; person++) {
                followed[person] = NONE;
                if (scene.at[person] >= 0) {
                    look(scene, person);
                    followed[person] = choose(scene, law, person);
                    went += approach(scene, person, followed[person]) ? 1 : 0;
                    leaveByGate(scene, person);
                }
            }
            return went > 0 || scene.outCount > outBefore;
        }

        /** Whom each PERSON FOLLOWS as all stand. */
        void askAll(Scene scene, Law law) {
            for (int person = 0; person < scene.people && person < PEOPLE; person++) {
                followed[person] = NONE;
                if (scene.at[person] >= 0) {
                    look(scene, person);
                    followed[person] = choose(scene, law, person);
                }
            }
        }

        /** Puts those one SEES in order. */
        void look(Scene scene, int who) {
            sighted = 0;
            beside = 0;
            elder = true;
            int here = who >= 0 && who < ALL ? scene.at[who] : NONE;
            int age = who >= 0 && who < PEOPLE ? scene.age[who] : FAR;
            for (int other = 0; here >= 0 && other < ALL; other++) {
                int there = scene.at[other];
                if (other == who || there < 0 || !ground.isClear(scene.kinds, here, there)) {
                    continue;
                }
                int distance = distance(here, there);
                int rank = other < PEOPLE ? FAR - scene.age[other] : FAR + 1;
                insert((distance << 12) + (rank << 4) + other);
                // nothing lies between one and those beside him, so he SEES all of these
                beside += distance <= 2 ? 1 : 0;
                elder = elder && FAR - rank <= age;
            }
        }

        private void insert(int key) {
            int i = Math.min(sighted, ALL - 1);
            while (i > 0 && order[i - 1] > key) {
                order[i] = order[i - 1];
                i--;
            }
            order[i] = key;
            sighted++;
        }

        /** Who is at a place (1 the first) of those last looked at; NONE beyond. */
        int sightedAt(int place) {
            return place >= 1 && place <= sighted && place <= ALL ? order[place - 1] & 15 : NONE;
        }

        /** Whom the LAW tells a PERSON, who has just looked, to follow. */
        private int choose(Scene scene, Law law, int person) {
            int start = 0;
            for (int i = 0; i < law.clauses && i < Law.CLAUSES; i++) {
                int end = law.testEnds[i];
                if (start == end || holds(scene, law.code, start, end, person)) {
                    return sightedAt(law.places[i]);
                }
                start = end;
            }
            return NONE;
        }

        private boolean holds(Scene scene, int[] code, int start, int end, int person) {
            int top = 0;
            for (int i = Math.max(start, 0); i < end && i < code.length; i++) {
                int sign = code[i];
                if (sign == NOT && top >= 1) {
                    stack[top - 1] = 1 - stack[top - 1];
                } else if (sign >= PLUS && sign <= OR && top >= 2) {
                    stack[top - 2] = work(sign, stack[top - 2], stack[top - 1]);
                    top--;
                } else if (top < STACK) {
                    stack[top] = sign >= NUMBER ? sign - NUMBER : valueOf(scene, sign, person);
                    top++;
                }
            }
            return stack[0] != 0;
        }

        private static long work(int sign, long a, long b) {
            switch (sign) {
                case PLUS:
                    return a + b;
                case MINUS:
                    return a - b;
                case TIMES:
                    return a * b;
                case BY:
                    return b == 0 ? 0 : a / b;
                case REST:
                    return b == 0 ? 0 : a % b;
                case LESS:
                    return a < b ? 1 : 0;
                case AT_MOST:
                    return a <= b ? 1 : 0;
                case LIKE:
                    return a == b ? 1 : 0;
                case AT_LEAST:
                    return a >= b ? 1 : 0;
                case MORE:
                    return a > b ? 1 : 0;
                case AND:
                    return a & b;
                default:
                    return a | b;
            }
        }

        private long valueOf(Scene scene, int word, int person) {
            int place = scene.at[person];
            switch (word) {
                case WORD_X:
                    return place % SIDE;
                case WORD_Y:
                    return place / SIDE;
                case WORD_AGE:
                    return scene.age[person];
                case WORD_SORT:
                    return scene.sort[person];
                case WORD_SEEN:
                    return sighted;
                case WORD_NEAR:
                    return sighted > 0 ? order[0] >> 12 : 0;
                case WORD_GATE:
                    return place >= 0 ? ground.toGate[place] : FAR;
                case WORD_BESIDE:
                    return beside;
                default:
                    return elder ? 1 : 0;
            }
        }

        /** Goes to the FREE CELL beside that is nearest to another one, if it is nearer than here. */
        private static boolean approach(Scene scene, int person, int other) {
            if (other < 0 || other >= ALL) {
                return false;
            }
            int here = scene.at[person];
            int there = scene.at[other];
            int best = NONE;
            int least = distance(here, there);
            for (int way = 0; way < WAYS; way++) {
                int next = scene.beside(here, way);
                if (next < 0 || distance(next, there) >= least) {
                    continue;
                }
                if (scene.isFree(next % SIDE, next / SIDE)) {
                    best = next;
                    least = distance(next, there);
                }
            }
            scene.put(person, best);
            return best >= 0;
        }

        private static void leaveByGate(Scene scene, int person) {
            int here = scene.at[person];
            if (here >= 0 && here < CELLS && scene.kinds[here] == GATE) {
                scene.lift(person);
                scene.out[person] = scene.steps;
                scene.outCount++;
            }
        }

        private static int distance(int here, int there) {
            int dx = here % SIDE - there % SIDE;
            int dy = here / SIDE - there / SIDE;
            return dx * dx + dy * dy;
        }
    }

    /** Answers what would be, on scenes of its own; the scene there is now stays as it is. */
    private static final class Planner {
        private final Scene now;
        private final Walker walker;
        private final Ground ground;
        private final Scene trial = new Scene();
        private final Scene usual = new Scene();
        /** SITUATIONS behind so many STEPS: where PEOPLE 0 to 7 and 8 to 11 stand, a byte each. */
        private final long[] firstEight = new long[LONGEST_ROUND + 1];
        private final long[] others = new long[LONGEST_ROUND + 1];
        private final int[] there = new int[PEOPLE];

        Planner(Scene now, Walker walker, Ground ground) {
            this.now = now;
            this.walker = walker;
            this.ground = ground;
        }

        int foresee(Law law, int n, int what) {
            trial.copyAll(now);
            walker.walk(trial, law, n);
            if (what == 0) {
                return trial.outCount;
            }
            if (what == 1) {
                return walker.went;
            }
            int person = what - 2;
            if (!now.isPerson(person) || trial.at[person] >= 0) {
                return NOTHING;
            }
            return now.at[person] < 0 ? 0 : trial.out[person] - now.steps;
        }

        int findRound(Law law, int what) {
            trial.copyAll(now);
            keepSituation(0);
            for (int i = 1; i <= LONGEST_ROUND; i++) {
                walker.step(trial, law);
                keepSituation(i);
                int before = findBefore(i);
                if (before >= 0) {
                    return what == 0 ? before : i - before;
                }
            }
            return NOTHING;
        }

        private void keepSituation(int i) {
            long first = 0;
            long second = 0;
            for (int person = 0; person < PEOPLE; person++) {
                long place = trial.at[person] + 1;
                if (person < 8) {
                    first = first << 8 | place;
                } else {
                    second = second << 8 | place;
                }
            }
            if (i >= 0 && i <= LONGEST_ROUND) {
                firstEight[i] = first;
                others[i] = second;
            }
        }

        private int findBefore(int i) {
            for (int k = Math.min(i, LONGEST_ROUND) - 1; k >= 0; k--) {
                if (firstEight[k] == firstEight[i] && others[k] == others[i]) {
                    return k;
                }
            }
            return NONE;
        }

        /** Of those whom the walker was just told of. */
        int longestFile() {
            int longest = 0;
            for (int person = 0; person < now.people && person < PEOPLE; person++) {
                int passed = 0;
                int next = now.at[person] < 0 ? NONE : person;
                for (int i = 0; i < PEOPLE && now.isPerson(next) && (passed >> next & 1) == 0; i++) {
                    passed |= 1 << next;
                    next = walker.followed[next];
                }
                longest = Math.max(longest, Integer.bitCount(passed));
            }
            return longest;
        }

        int findRings(boolean asBits) {
            int rings = 0;
            int inRings = 0;
            for (int person = 0; person < now.people && person < PEOPLE; person++) {
                int ring = ringFrom(person);
                rings += ring != 0 && (inRings & ring) == 0 ? 1 : 0;
                inRings |= ring;
            }
            return asBits ? inRings : rings;
        }

        /** The ring that a PERSON is in, as bits; 0 if he is in none. */
        private int ringFrom(int person) {
            int passed = 0;
            int next = person;
            for (int i = 0; i < PEOPLE && now.isPerson(next); i++) {
                passed |= 1 << next;
                next = walker.followed[next];
                if (next == person) {
                    return passed;
                }
            }
            return 0;
        }

        int missedBy(Law law, int who, int n) {
            walkUsually(law, n);
            return countElsewhere(law, who, n);
        }

        int findLeader(Law law, int n, int what) {
            walkUsually(law, n);
            int leader = NOTHING;
            int most = NONE;
            for (int who = 0; who < ALL; who++) {
                int elsewhere = now.at[who] < 0 ? NONE : countElsewhere(law, who, n);
                if (elsewhere > most) {
                    most = elsewhere;
                    leader = who;
                }
            }
            return what == 0 || leader < 0 ? leader : most;
        }

        private void walkUsually(Law law, int n) {
            usual.copyAll(now);
            trial.copyAll(now);
            walker.walk(usual, law, n);
        }

        private int countElsewhere(Law law, int who, int n) {
            trial.copyPlaces(now);
            trial.lift(who);
            walker.walk(trial, law, n);
            int elsewhere = 0;
            for (int person = 0; person < PEOPLE; person++) {
                elsewhere += person != who && trial.at[person] != usual.at[person] ? 1 : 0;
            }
            return elsewhere;
        }

        /** More than these can't be OUT behind n STEPS, wherever HERALDS stand: a STEP is one CELL at most. */
        private int boundOfOut(int n) {
            int bound = now.outCount;
            for (int person = 0; person < PEOPLE; person++) {
                int place = now.at[person];
                bound += place >= 0 && Math.max(1, ground.toGate[place]) <= n ? 1 : 0;
            }
            return bound;
        }

        int findPost(Law law, int n, int what) {
            trial.copyAll(now);
            int home = now.at[PEOPLE];
            int bound = boundOfOut(n);
            int post = home;
            int most = NONE;
            for (int place = 0; place < CELLS && most < bound; place++) {
                if (place != home && !now.isFree(place % SIDE, place / SIDE)) {
                    continue;
                }
                trial.copyPlaces(now);
                trial.put(PEOPLE, place);
                walker.walk(trial, law, n);
                if (trial.outCount > most) {
                    most = trial.outCount;
                    post = place;
                }
            }
            return what == 0 ? post : most;
        }

        int findCourse(Law law, int n, int m, int what) {
            if (n < 0 || n >= COURSES.length) {
                return NONE;
            }
            trial.copyAll(now);
            int bound = boundOfOut(n + m);
            int best = 0;
            int most = NONE;
            for (int course = 0; course < COURSES[n] && most < bound; course++) {
                int out = tryCourse(law, course, n, m);
                if (out > most) {
                    most = out;
                    best = course;
                }
            }
            return what == 0 ? most : choiceOf(best, what - 1, n);
        }

        /** How many are OUT then; NONE if a WAY can't be gone. */
        private int tryCourse(Law law, int course, int n, int m) {
            trial.copyPlaces(now);
            for (int i = 0; i < n; i++) {
                int way = choiceOf(course, i, n);
                if (way < WAYS && !trial.goBy(PEOPLE, way)) {
                    return NONE;
                }
                walker.step(trial, law);
            }
            walker.walk(trial, law, m);
            return trial.outCount;
        }

        /** One of the n choices of a course: the first weighs most, so that courses are in order by it. */
        private static int choiceOf(int course, int i, int n) {
            int later = n - 1 - i;
            if (later < 0 || later >= COURSES.length) {
                return NONE;
            }
            return course / COURSES[later] % CHOICES;
        }

        int findWall(Law law, int n) {
            // one WALL more makes no way to a GATE shorter
            if (boundOfOut(n) < now.people) {
                return NOTHING;
            }
            trial.copyAll(now);
            int found = NOTHING;
            for (int place = 0; place < CELLS && found < 0; place++) {
                if (now.kinds[place] != OPEN_PLAIN || !now.isFree(place % SIDE, place / SIDE)) {
                    continue;
                }
                trial.copyPlaces(now);
                trial.kinds[place] = WALL;
                ground.survey(trial);
                walker.walk(trial, law, n);
                trial.kinds[place] = OPEN_PLAIN;
                if (trial.outCount == trial.people) {
                    found = place;
                }
            }
            ground.survey(now);
            return found;
        }

        int countAgo(Law law) {
            int n = 0;
            for (int person = 0; person < PEOPLE; person++) {
                if (now.at[person] >= 0) {
                    there[n] = person;
                    n++;
                }
            }
            if (n > 3 || now.columns * now.rows > 36) {
                return NOTHING;
            }
            trial.copyAll(now);
            int situations = 0;
            // nobody goes further than to a CELL beside him, so he was there or where he is
            for (int course = 0; course < COURSES[n]; course++) {
                if (arrange(course, n) && leadsHere(law, n)) {
                    situations++;
                }
            }
            return situations;
        }

        private boolean arrange(int course, int n) {
            trial.copyPlaces(now);
            for (int i = 0; i < n; i++) {
                trial.lift(there[i]);
            }
            for (int i = 0; i < n; i++) {
                int way = choiceOf(course, i, n);
                int here = now.at[there[i]];
                int place = way < WAYS ? now.beside(here, way) : here;
                if (place < 0 || !trial.isFree(place % SIDE, place / SIDE)) {
                    return false;
                }
                trial.put(there[i], place);
            }
            return true;
        }

        private boolean leadsHere(Law law, int n) {
            walker.step(trial, law);
            for (int i = 0; i < n; i++) {
                if (trial.at[there[i]] != now.at[there[i]]) {
                    return false;
                }
            }
            return true;
        }

        int judge(Law law) {
            int last = 0;
            for (int i = 0; i < now.spoors && i < SPOORS; i++) {
                last = Math.max(last, now.spoorStep[i]);
            }
            trial.copyAll(now);
            int first = now.spoors;
            for (int step = 1; step <= last && step <= LONGEST; step++) {
                walker.step(trial, law);
                for (int i = 0; i < first && i < SPOORS; i++) {
                    if (now.spoorStep[i] == step && !isFollowing(now.spoorPerson[i], now.spoorOther[i])) {
                        first = i;
                    }
                }
            }
            return first < now.spoors ? first : NOTHING;
        }

        private boolean isFollowing(int person, int other) {
            return now.isPerson(person) && walker.followed[person] == other;
        }
    }
}
