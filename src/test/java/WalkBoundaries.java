/** The sentences on WAYS, SEEING and STEPS that name a boundary: promises 6 to 13 and II. of the terms. */
final class WalkBoundaries extends Check {
    private WalkBoundaries() { }

    // ---- promises 6 to 8

    private static void personsAnswers() {
        says("Of a PERSON what 0: x, 1: y (NONE: he is OUT), 2: age, 3: sort, 4: the STEP at which he came OUT (NONE: not)."
            + " NONE without these.");
        SecondNearest s = busy();
        int[][] want = {{NONE, NONE, 30, 4, 1}, {3, 0, 7, 9, NONE}};
        for (int p = 0; p < 2; p++) {
            for (int what = 0; what <= 4; what++) {
                due("person(" + p + ", " + what + ")", s.person(p, what), want[p][what]);
            }
            due("what -1", s.person(p, -1), NONE);
            due("what 5", s.person(p, 5), NONE);
        }
        for (int p : new int[] {-1, 2, 11, 12, 13, WILD[0], WILD[1]}) {
            due("person " + p, s.person(p, 2), NONE);
        }
        for (int what : WILD) {
            due("what " + what, s.person(1, what), NONE);
        }
        SecondNearest t = on("row G.;row ..;person 0 0 1 1;person 1 1 2 2", "stand if x+y=0;follow 1", "stand if x<9");
        due("OUT at the first STEP", t.ahead(0, 1, 2), 1);
        due("before it", t.person(0, 4), NONE);
        due("x before it", t.person(0, 0), 0);
        t.tick(0, 1);
        due("behind it", t.person(0, 4), 1);
        due("x behind it", t.person(0, 0), NONE);
        due("y behind it", t.person(0, 1), NONE);
        t.tick(1, 200);
        due("it stays the first", t.person(0, 4), 1);
        SecondNearest u = on("row ..G.;person 0 0 1 1;herald 3 0", "stand", "follow 1");
        u.tick(0, 200);
        u.tick(0, 98);
        u.tick(1, 1);
        due("on the way at STEP 299", u.person(0, 4), NONE);
        u.tick(1, 1);
        due("OUT at STEP 300 of all", u.person(0, 4), 300);
    }

    private static void heraldsAnswers() {
        says("Of a HERALD what 0: x, 1: y. NONE without these.");
        SecondNearest s = on("row ....;row ....;herald 3 1;herald 0 1");
        due("x of 0", s.herald(0, 0), 3);
        due("y of 0", s.herald(0, 1), 1);
        due("x of 1", s.herald(1, 0), 0);
        due("y of 1", s.herald(1, 1), 1);
        for (int h : new int[] {-1, 2, 12, 13, WILD[0], WILD[1]}) {
            due("HERALD " + h, s.herald(h, 0), NONE);
        }
        for (int what : new int[] {-1, 2, WILD[0], WILD[1]}) {
            due("what " + what, s.herald(0, what), NONE);
        }
        SecondNearest one = on("row ..;herald 1 0");
        due("of one: 0", one.herald(0, 0), 1);
        due("of one: 1", one.herald(1, 0), NONE);
        due("of none: 0", on("row ..;person 1 0 1 1").herald(0, 0), NONE);
    }

    private static void kindsAndWhoStands() {
        says("Of a CELL what 0: its kind (0 plain, 1 WALL, 2 POND, 3 GATE), 1: who stands there (a PERSON; 12 and a HERALD; NONE)");
        SecondNearest s = on("row .#~G;row ..GG;person 0 0 1 1;person 3 0 1 1;herald 1 1;herald 2 1", "stand");
        int[][] kinds = {{0, 1, 2, 3}, {0, 0, 3, 3}};
        int[][] who = {{0, NONE, NONE, 1}, {NONE, 12, 13, NONE}};
        int[][] far = {{2, 99, 99, 0}, {2, 1, 0, 0}};
        for (int y = 0; y < 2; y++) {
            for (int x = 0; x < 4; x++) {
                due("kind of " + x + "," + y, s.cell(x, y, 0), kinds[y][x]);
                due("who at " + x + "," + y, s.cell(x, y, 1), who[y][x]);
                due("STEPS from " + x + "," + y, s.cell(x, y, 2), far[y][x]);
            }
        }
        s.tick(0, 1);
        due("where one came OUT nobody stands", s.cell(3, 0, 1), NONE);
    }

    private static void cellsBeyond() {
        says("2: STEPS to a GATE (99: no way; a WALL, a POND: 99). NONE without these.");
        SecondNearest s = on("row .#~G;row ..GG;person 0 0 1 1;person 3 0 1 1;herald 1 1;herald 2 1", "stand");
        due("a WALL beside a GATE", s.cell(1, 0, 2), 99);
        due("a POND beside a GATE", s.cell(2, 0, 2), 99);
        for (int what : new int[] {-1, 3, WILD[0], WILD[1]}) {
            due("what " + what, s.cell(0, 0, what), NONE);
        }
        for (int beyond : new int[] {-1, 4, 12, WILD[0], WILD[1]}) {
            due("x " + beyond, s.cell(beyond, 0, 0), NONE);
            due("y " + beyond, s.cell(0, beyond, 0), NONE);
        }
        due("the last x", s.cell(3, 0, 0), 3);
        due("the last y", s.cell(0, 1, 0), 0);
        due("y 2", s.cell(0, 2, 0), NONE);
        // no row goes on in the next one
        SecondNearest t = on("row ###########G" + times(";row ............", 11));
        due("x 11", t.cell(11, 0, 0), 3);
        due("x 12", t.cell(12, 0, 0), NONE);
        due("x -1 of the next row", t.cell(-1, 1, 0), NONE);
        due("y 11", t.cell(11, 11, 0), 0);
        due("y 12", t.cell(0, 12, 0), NONE);
        due("y -1", t.cell(11, -1, 0), NONE);
    }

    private static void stepsToAGate() {
        says("STEPS to a GATE: by WAYS over CELLS that are plain or GATES (whoever stands there), 0 on one.");
        due("0 on one, though somebody stands there", on("row G;person 0 0 1 1").cell(0, 0, 2), 0);
        due("1 beside", on("row .;row G").cell(0, 0, 2), 1);
        due("1 aslant, between WALLS", on("row .#;row #G").cell(0, 0, 2), 1);
        due("over those who stand there", on("row ...G;person 1 0 1 1;herald 2 0").cell(0, 0, 2), 3);
        due("over a GATE: it is one", on("row .G.").cell(0, 0, 2), 1);
        due("not over a POND", on("row .~G").cell(0, 0, 2), 99);
        due("not over a WALL", on("row .#G").cell(0, 0, 2), 99);
        due("without a GATE", on("row ...").cell(0, 0, 2), 99);
        due("the long way", on(LONG_WAY).cell(0, 11, 2), 66);
        due("the nearest of two", on("row G.....G").cell(4, 0, 2), 2);
        SecondNearest above = on("row G..........." + times(";row ............", 11));
        SecondNearest below = on("row ............" + times(";row ............", 10) + ";row ...........G");
        for (int y = 0; y < 12; y++) {
            for (int x = 0; x < 12; x++) {
                due("from " + x + "," + y, above.cell(x, y, 2), Math.max(x, y));
                due("from " + x + "," + y, below.cell(x, y, 2), 11 - Math.min(x, y));
            }
        }
    }

    private static void cells() {
        says("CELLS (x, y), x to the right, y downwards, by SIGNS");
        SecondNearest s = on("row .#;row ~G;row ..;herald 0 2");
        due("right of the first", s.cell(1, 0, 0), 1);
        due("below the first", s.cell(0, 1, 0), 2);
        due("both", s.cell(1, 1, 0), 3);
        due("the last", s.cell(1, 2, 0), 0);
        due("right of the last", s.cell(2, 1, 0), NONE);
        due("below the last", s.cell(0, 3, 0), NONE);
    }

    private static void distances() {
        says("DISTANCE of two CELLS: the square of what x differs by and that of y, together.");
        // from (0,0): 5 aslant to (2,1) is more than 4 to (0,2), 8 to (2,2) less than 9 to (3,0), and 25 is 25 both ways
        SecondNearest t = on("row ......;row ......;row ......;row ......;row ......;person 0 0 1 1;person 2 1 1 1;person 0 2 1 1"
            + ";person 3 0 1 1;person 2 2 1 1;person 5 0 1 1;person 3 4 2 1");
        due("the order", order(t, 0), "[2, 1, 4, 3, 6, 5]");
    }

    /** CELLS (0, 0) and (11, 11) and PERSON 11 are as any other. */
    private static void firstAndLast() {
        says("CELLS (x, y), x to the right, y downwards, by SIGNS");
        due("a WALL at the last CELL", on(SQUARE.substring(0, SQUARE.length() - 1) + "#").cell(11, 11, 0), 1);
        SecondNearest s = on(SQUARE + ";person 11 11 1 1;herald 0 11;herald 11 0", "follow 1");
        due("one goes from the last CELL", s.ahead(0, 1, 1), 1);
        s.tick(0, 1);
        due("he is beside it", where(s, 0), "10,11");
        due("nobody is there", s.cell(11, 11, 1), NONE);
        SecondNearest t = on(SQUARE + ";herald 11 11;person 0 0 1 1");
        due("a HERALD goes from it", t.goes(0, 6), true);
        due("nobody is there", t.cell(11, 11, 1), NONE);
        due("and back", t.goes(0, 2), true);
        due("he is there", t.cell(11, 11, 1), 12);
        SecondNearest u = on("row ..;row .~;person 1 0 1 1;herald 0 1", "follow 1");
        due("one went to the first CELL", u.ahead(0, 1, 1), 1);
        u.tick(0, 1);
        due("he is there", where(u, 0), "0,0");
        due("the CELL tells", u.cell(0, 0, 1), 0);
        SecondNearest v = on("row ............" + times(";row ............", 10) + ";row ...........G;person 11 11 1 1", "stand");
        v.tick(0, 1);
        due("OUT through the last CELL", v.person(0, 4), 1);
        SecondNearest w = on("row G.;person 0 0 1 1", "stand");
        w.tick(0, 1);
        due("OUT through the first CELL", w.person(0, 4), 1);
    }

    // ---- who SEES whom

    private static int seesOn(String plain) {
        SecondNearest s = on(plain);
        int a = s.sees(0);
        due("he SEES the HERALD as the HERALD SEES him on '" + plain + "'", s.sees(12), a);
        return a;
    }

    private static void nothingBetween() {
        says("One SEES another one (PERSON or HERALD who is there, not himself), if none of the CELLS between is a WALL");
        due("alone", on("row ...;person 1 0 1 1").sees(0), 0);
        due("beside: nothing is between", seesOn("row ..;person 0 0 1 1;herald 1 0"), 1);
        due("aslant between WALLS: nothing is between", seesOn("row .#;row #.;person 0 0 1 1;herald 1 1"), 1);
        due("one CELL between", seesOn("row ...;person 0 0 1 1;herald 2 0"), 1);
        due("a WALL between", seesOn("row .#.;person 0 0 1 1;herald 2 0"), 0);
        due("a POND between", seesOn("row .~.;person 0 0 1 1;herald 2 0"), 1);
        due("a GATE between", seesOn("row .G.;person 0 0 1 1;herald 2 0"), 1);
        due("a WALL behind either", seesOn("row #..#;person 1 0 1 1;herald 2 0"), 1);
        SecondNearest s = on("row ...;person 0 0 1 1;person 1 0 1 1;herald 2 0");
        due("over one who stands between", s.sees(0), 2);
        SecondNearest t = on("row .G.;person 0 0 1 1;person 1 0 1 1;herald 2 0", "stand");
        due("before he is OUT", order(t, 0), "[1, 12]");
        t.tick(0, 1);
        due("one who is OUT is not there", order(t, 0), "[12]");
        due("nor for the HERALD", order(t, 12), "[0]");
    }

    /** A PLAIN without WALLS but for one CELL. */
    private static String oneWall(int columns, int rows, int x, int y) {
        StringBuilder s = new StringBuilder();
        for (int cy = 0; cy < rows; cy++) {
            s.append(cy == 0 ? "row " : ";row ");
            for (int cx = 0; cx < columns; cx++) {
                s.append(cx == x && cy == y ? '#' : '.');
            }
        }
        return s.toString();
    }

    /** Of all CELLS but the two themselves, exactly those told (x, y one behind the other) hide two from each other. */
    private static void hiddenAt(int columns, int rows, int[] ends, int... cells) {
        String two = ";person " + ends[0] + " " + ends[1] + " 1 1;herald " + ends[2] + " " + ends[3];
        for (int y = 0; y < rows; y++) {
            for (int x = 0; x < columns; x++) {
                boolean end = x == ends[0] && y == ends[1] || x == ends[2] && y == ends[3];
                int want = 1;
                for (int i = 0; i < cells.length; i += 2) {
                    want = cells[i] == x && cells[i + 1] == y ? 0 : want;
                }
                if (!end) {
                    due("a WALL at " + x + "," + y + two, seesOn(oneWall(columns, rows, x, y) + two), want);
                }
            }
        }
    }

    private static void linesOfSight() {
        says("with n the greater of what x and y differ by, for k of 1 to n - 1 those at x of the lesser of the two CELLS (by 12 * y + x)"
            + " and (2 * k * dx + n) by (2 * n), downwards, and y likewise (dx, dy: from the lesser to the other one)");
        hiddenAt(2, 2, new int[] {0, 0, 1, 1});
        hiddenAt(3, 1, new int[] {2, 0, 0, 0}, 1, 0);
        hiddenAt(12, 1, new int[] {0, 0, 11, 0}, 1, 0, 2, 0, 3, 0, 4, 0, 5, 0, 6, 0, 7, 0, 8, 0, 9, 0, 10, 0);
        hiddenAt(1, 12, new int[] {0, 11, 0, 0}, 0, 1, 0, 2, 0, 3, 0, 4, 0, 5, 0, 6, 0, 7, 0, 8, 0, 9, 0, 10);
        hiddenAt(3, 3, new int[] {2, 0, 0, 2}, 1, 1);
        // a half goes up: (2 + 2) by 4 is 1
        hiddenAt(3, 2, new int[] {0, 0, 2, 1}, 1, 1);
        hiddenAt(2, 3, new int[] {0, 0, 1, 2}, 1, 1);
        // to the left: x 2 + (-4 + 2) by 4, downwards: 2 - 1; x 1 + (-2 + 2) by 4: 1
        hiddenAt(3, 2, new int[] {2, 0, 0, 1}, 1, 1);
        hiddenAt(2, 3, new int[] {1, 0, 0, 2}, 1, 1);
        // x 1 + (-2 + 3) by 6: 1; x 1 + (-4 + 3) by 6, downwards: 0
        hiddenAt(2, 4, new int[] {1, 0, 0, 3}, 1, 1, 0, 2);
        hiddenAt(2, 4, new int[] {0, 3, 1, 0}, 1, 1, 0, 2);
        // x (2 + 3) by 6: 0; (4 + 3) by 6: 1
        hiddenAt(2, 4, new int[] {0, 0, 1, 3}, 0, 1, 1, 2);
        // y (2 + 3) by 6: 0, (4 + 3) by 6: 1; x 3 - 1, 3 - 2
        hiddenAt(4, 2, new int[] {3, 0, 0, 1}, 2, 0, 1, 1);
        // x 2 + (-4 + 4) by 8: 2; (-8 + 4) by 8, downwards: 1; (-12 + 4) by 8: 1
        hiddenAt(3, 5, new int[] {2, 0, 0, 4}, 2, 1, 1, 2, 1, 3);
        // the same from CELLS that are not at the border
        hiddenAt(5, 4, new int[] {1, 1, 3, 2}, 2, 2);
        hiddenAt(5, 4, new int[] {3, 1, 1, 2}, 2, 2);
        hiddenAt(4, 5, new int[] {2, 1, 1, 4}, 2, 2, 1, 3);
        hiddenAt(4, 5, new int[] {1, 1, 2, 4}, 1, 2, 2, 3);
        hiddenAt(4, 4, new int[] {1, 1, 2, 2});
        SecondNearest s = on(SQUARE + ";person 0 0 1 1;herald 11 11");
        due("from corner to corner", s.sees(0), 1);
        String corners = ";person 0 0 1 1;herald 11 11";
        due("hidden at (1,1)", seesOn(oneWall(12, 12, 1, 1) + corners), 0);
        due("hidden at (10,10)", seesOn(oneWall(12, 12, 10, 10) + corners), 0);
        due("not at (10,11)", seesOn(oneWall(12, 12, 10, 11) + corners), 1);
    }

    /** The sentence on lines of sight told a second time: whether no CELL between two is a WALL. */
    private static boolean isOpen(String[] rows, int ax, int ay, int bx, int by) {
        boolean lesser = 12 * ay + ax < 12 * by + bx;
        int x = lesser ? ax : bx;
        int y = lesser ? ay : by;
        int dx = (lesser ? bx : ax) - x;
        int dy = (lesser ? by : ay) - y;
        int n = Math.max(Math.abs(dx), Math.abs(dy));
        for (int k = 1; k < n; k++) {
            int cx = x + (int) Math.floor((2.0 * k * dx + n) / (2.0 * n));
            int cy = y + (int) Math.floor((2.0 * k * dy + n) / (2.0 * n));
            if (rows[cy].charAt(cx) == '#') {
                return false;
            }
        }
        return true;
    }

    /** A HERALD goes along every other row, and SEES just those of twelve PEOPLE between the rows to whom the line is open. */
    private static void sightsOfAWanderer() {
        says("One SEES another one (PERSON or HERALD who is there, not himself), if none of the CELLS between is a WALL");
        String[] rows = {"............", "....##.#.##.", "............", "..#.#..##..#", "............", "#.##....#.#.", "............",
            "...#.##.#.#.", "............", "##...#..##..", "............", ".#..#....#.."};
        int[][] people = {{0, 1}, {1, 1}, {2, 1}, {3, 1}, {6, 1}, {1, 3}, {9, 5}, {7, 7}, {4, 9}, {6, 9}, {10, 11}, {0, 11}};
        StringBuilder text = new StringBuilder("row ").append(String.join(";row ", rows));
        for (int[] p : people) {
            text.append(";person ").append(p[0]).append(' ').append(p[1]).append(" 0 0");
        }
        SecondNearest s = on(text + ";herald 0 0");
        int x = 0;
        int y = 0;
        for (int i = 0; i < 76; i++) {
            int want = 0;
            for (int[] p : people) {
                want += isOpen(rows, x, y, p[0], p[1]) ? 1 : 0;
            }
            due("from " + x + "," + y, s.sees(12), want);
            boolean right = y % 4 == 0;
            int way = y % 2 == 1 || x == (right ? 11 : 0) ? 4 : right ? 2 : 6;
            due("on from " + x + "," + y, s.goes(0, way), true);
            x += way == 2 ? 1 : way == 6 ? -1 : 0;
            y += way == 4 ? 1 : 0;
        }
        due("he is at the end", s.cell(x, y, 1), 12);
    }

    private static void theOrder() {
        says("Those he SEES are in order by their DISTANCE, of one DISTANCE PEOPLE ahead of HERALDS, PEOPLE the older first"
            + ", of one age by their numbers, HERALDS by their numbers.");
        // round (2,2): at 1 PERSON 1 (0), 3 (9), HERALDS 1, 0; at 2 PERSON 2 (99), 4 (99); at 4 PERSON 5
        SecondNearest s = on("row .....;row .....;row .....;row .....;row .....;person 2 2 50 1;person 2 1 0 1;person 1 1 99 1"
            + ";person 3 2 9 1;person 3 3 99 1;person 2 4 99 1;herald 2 3;herald 1 2");
        due("the order", order(s, 0), "[3, 1, 12, 13, 2, 4, 5]");
        due("how many", s.sees(0), 7);
        SecondNearest t = on("row ...;row ...;row ...;person 1 1 0 0;person 0 1 5 0;person 2 1 6 0;person 1 0 5 0;person 1 2 4 0");
        due("older by one year", order(t, 0), "[2, 1, 3, 4]");
        SecondNearest u = on("row ...;person 0 0 0 0;herald 1 0;person 2 0 99 0");
        due("DISTANCE ahead of all else", order(u, 0), "[12, 1]");
        due("a PERSON of age 0 ahead of a HERALD", order(on("row ...;herald 0 0;person 1 0 9 9;person 2 0 0 0"), 0), "[1, 12]");
        due("HERALDS by their numbers", order(on("row ...;herald 2 0;person 1 0 9 9;herald 0 0"), 0), "[12, 13]");
        SecondNearest v = on("row ............;row ............" + peopleOfARow(12) + ";herald 0 1;herald 11 1");
        due("of all fourteen", order(v, 0), "[1, 12, 2, 3, 4, 5, 6, 7, 8, 9, 10, 11, 13]");
        due("of the other end", order(v, 11), "[10, 13, 9, 8, 7, 6, 5, 4, 3, 2, 1, 0, 12]");
    }

    private static void seesAnswers() {
        says("How many one SEES (who 12 and above: a HERALD); -2: he is OUT; NONE without him.");
        SecondNearest s = busy();
        due("one who is OUT", s.sees(0), -2);
        due("PERSON 1", s.sees(1), 1);
        due("HERALD 0", s.sees(12), 1);
        for (int who : new int[] {-1, 2, 11, 13, 14, WILD[0], WILD[1]}) {
            due("who " + who, s.sees(who), NONE);
        }
        SecondNearest t = on("row ............;row ............" + peopleOfARow(12) + ";herald 0 1;herald 1 1");
        due("PERSON 11", t.sees(11), 13);
        due("HERALD 0", t.sees(12), 13);
        due("HERALD 1", t.sees(13), 13);
        due("who 14", t.sees(14), NONE);
    }

    private static void seenAnswers() {
        says("Who is at a place (1 and above) of those one SEES in order; -2: he SEES not so many, or is OUT; NONE without these.");
        SecondNearest s = busy();
        SecondNearest t = on("row ............;row ............" + peopleOfARow(12) + ";herald 0 1;herald 1 1");
        due("place 1", t.seen(11, 1), 10);
        due("place 13", t.seen(11, 13), 12);
        due("place 14", t.seen(11, 14), -2);
        due("the greatest place", t.seen(11, Integer.MAX_VALUE), -2);
        due("place 0", t.seen(11, 0), NONE);
        due("place -1", t.seen(11, -1), NONE);
        due("the least place", t.seen(11, Integer.MIN_VALUE), NONE);
        due("who 14", t.seen(14, 1), NONE);
        due("who -1", t.seen(-1, 1), NONE);
        due("one who is OUT", s.seen(0, 1), -2);
        due("of one the first", s.seen(1, 1), 12);
        due("of one the second", s.seen(1, 2), -2);
        due("a HERALD's first", s.seen(12, 1), 1);
        due("PERSON 2", s.seen(2, 1), NONE);
        due("HERALD 1", s.seen(13, 1), NONE);
        due("of none the first", on("row .;person 0 0 1 1").seen(0, 1), -2);
    }

    // ---- BY HAND

    private static void barred(String why, String plain, int herald, int way) {
        stays("goes(" + herald + ", " + way + "): " + why, () -> on(plain, "follow 1"), s -> s.goes(herald, way) ? 1 : 0, 0);
    }

    private static void ways() {
        says("WAYS 0 to 7: up, up and right, right, down and right, down, down and left, left, up and left.");
        int[][] at = {{1, 0}, {2, 0}, {2, 1}, {2, 2}, {1, 2}, {0, 2}, {0, 1}, {0, 0}};
        SecondNearest s = on("row ...;row ...;row ...;herald 1 1");
        for (int way = 0; way <= 7; way++) {
            due("WAY " + way, s.goes(0, way), true);
            due("x", s.herald(0, 0), at[way][0]);
            due("y", s.herald(0, 1), at[way][1]);
            due("and back", s.goes(0, (way + 4) % 8), true);
        }
        due("he is where he was", s.cell(1, 1, 1), 12);
    }

    private static void goesAnswers() {
        says("BY HAND a HERALD goes: true; false, and nothing happens, without these.");
        String open = "row ...;row ...;row ...;herald 1 1;person 2 2 1 1";
        for (int way : new int[] {-1, 8, 9, WILD[0], WILD[1]}) {
            barred("no such WAY", open, 0, way);
        }
        for (int herald : new int[] {-1, 1, 2, 12, WILD[0], WILD[1]}) {
            barred("no such HERALD", open, herald, 2);
        }
        barred("no HERALD", "row ...;person 1 0 1 1", 0, 2);
        barred("HERALD 2 of two", "row ...;herald 0 0;herald 2 0", 2, 2);
        SecondNearest two = on("row ...;herald 0 0;herald 2 0");
        due("HERALD 1", two.goes(1, 6), true);
        due("he alone", two.herald(0, 0) + 10 * two.herald(1, 0), 10);
        due("no PLAIN", new SecondNearest().goes(0, 0), false);
    }

    private static void freeCells() {
        says("FREE: a CELL that is plain or a GATE, on which nobody stands.");
        String all = "row #~G;row ...;row ...;herald 1 1;person 2 1 1 1;herald 0 1";
        barred("a WALL", all, 0, 7);
        barred("a POND", all, 0, 0);
        barred("where a PERSON stands", all, 0, 2);
        barred("where a HERALD stands", all, 0, 6);
        SecondNearest t = on(all);
        due("a CELL that is plain", t.goes(0, 4), true);
        due("back", t.goes(0, 0), true);
        due("a GATE", t.goes(0, 1), true);
        due("he stands there", t.cell(2, 0, 1), 12);
        for (int way = 0; way <= 7; way++) {
            barred("beyond the rows", "row .;herald 0 0", 0, way);
        }
        SecondNearest corner = on(SQUARE + ";herald 11 5");
        for (int way = 1; way <= 3; way++) {
            due("beyond the last column, no row goes on in the next", corner.goes(0, way), false);
        }
        due("x still", corner.herald(0, 0), 11);
        SecondNearest other = on(SQUARE + ";herald 0 5");
        for (int way = 5; way <= 7; way++) {
            due("beyond the first column", other.goes(0, way), false);
        }
        due("x still", other.herald(0, 0), 0);
        SecondNearest gate = on("row G.;person 0 0 1 1;herald 1 0", "stand");
        due("one stands on the GATE", gate.goes(0, 6), false);
        gate.tick(0, 1);
        due("he is OUT: it is FREE", gate.goes(0, 6), true);
    }

    private static void heraldOnAGate() {
        says("BY HAND a HERALD goes by a WAY, to a FREE CELL (he does not come OUT).");
        SecondNearest s = on("row G.;row ..;person 0 0 1 1;herald 1 0;person 1 1 2 2", "stand", "follow 1");
        s.tick(0, 1);
        due("one is OUT", s.count(5), 1);
        due("the HERALD goes to the GATE", s.goes(0, 6), true);
        s.tick(0, 200);
        due("he is on it still", s.herald(0, 0), 0);
        due("he is SEEN there", s.seen(1, 1), 12);
        due("OUT", s.count(5), 1);
        due("STEPS: going BY HAND is none", s.count(4), 201);
        due("he goes off it", s.goes(0, 2), true);
        due("where he was is FREE", s.cell(0, 0, 1), NONE);
    }

    // ---- STEPS

    private static void turns() {
        says("A STEP by a LAW: PEOPLE, by their numbers, who are there");
        // 0 has his turn first and is barred by 1; the other way round neither is
        SecondNearest first = on("row ....;person 0 0 1 1;person 1 0 1 1;herald 3 0", "follow 2 if x=0;follow 2 if x=1");
        first.tick(0, 1);
        due("0 was barred", first.person(0, 0), 0);
        due("1 went", first.person(1, 0), 2);
        SecondNearest last = on("row ....;person 1 0 1 1;person 0 0 1 1;herald 3 0", "follow 2 if x=0;follow 2 if x=1");
        last.tick(0, 1);
        due("0 went", last.person(0, 0), 2);
        due("1 behind him", last.person(1, 0), 1);
    }

    private static void clauses() {
        says("the first CLAUSE without a TEST, or whose TEST holds, says what he does (none: he stands)");
        SecondNearest s = on("row .....;person 2 0 1 1;herald 0 0;herald 4 0", "follow 1;follow 2", "follow 2 if x=2;follow 1",
            "follow 2 if x=3;follow 1", "follow 1 if x=3;follow 2 if x=4", "stand if x=2;follow 1", "stand;follow 1");
        int[] want = {12, 13, 12, -2, -2, -2};
        for (int law = 0; law < 6; law++) {
            due("by LAW " + law, s.follows(law, 0), want[law]);
            due("went by LAW " + law, s.ahead(law, 1, 1), want[law] < 0 ? 0 : 1);
        }
    }

    private static void placesOfTheOrder() {
        says("(as all stand then; if he SEES not so many: stands)");
        // 0 goes to x 1; then 1 has him at 4 as he has the HERALD, and PEOPLE are ahead
        SecondNearest t = on("row ......;person 0 0 1 1;person 3 0 1 1;herald 5 0", "follow 1");
        due("as they stand now: the HERALD", t.follows(0, 1), 12);
        t.tick(0, 1);
        due("0 went", t.person(0, 0), 1);
        due("1 went after 0", t.person(1, 0), 2);
        SecondNearest u = on("row .....;person 0 0 1 1;herald 3 0;herald 4 0", "follow 2", "follow 3", "follow 3;follow 1", "follow 1");
        due("so many", u.ahead(0, 1, 1), 1);
        due("one more than he SEES", u.ahead(1, 1, 1), 0);
        due("the CLAUSE behind is not asked", u.ahead(2, 1, 1), 0);
        due("fewer", u.ahead(3, 1, 1), 1);
    }

    private static void whereOneGoes() {
        says("he goes to the FREE CELL beside him with the least DISTANCE to that one, of several by the least WAY"
            + ", if that is less than from where he stands.");
        goesTo("row ....;row .~..;row ....;person 0 1 1 1;herald 3 1", "1,0");
        goesTo("row ....;row ..~.;row ....;person 3 1 1 1;herald 0 1", "2,2");
        goesTo("row ...;row .~.;row ...;row ...;person 1 0 1 1;herald 1 3", "2,1");
        goesTo("row ...;row ...;row .~.;row ...;person 1 3 1 1;herald 1 0", "2,2");
        goesTo("row ..;row ..;person 0 0 1 1;herald 1 1", "1,0");
        goesTo("row ..;row ..;person 1 1 1 1;herald 0 0", "1,0");
        goesTo("row ..;row ..;person 1 0 1 1;herald 0 1", "1,1");
        goesTo("row ...;row ...;person 0 0 1 1;herald 2 1", "1,1");
        // on the CELLS that are FREE he would be as near: he stands
        goesTo("row ...;row ...;person 1 0 1 1;herald 1 1", "1,0");
        goesTo("row .;row ~;row .;person 0 2 1 1;herald 0 0", "0,2");
        goesTo("row ....;row .~~.;row .~..;row ....;person 0 3 1 1;herald 3 2", "1,3");
        goesTo("row ..;person 0 0 1 1;herald 1 0", "0,0");
    }

    /** Where PERSON 0 is behind one STEP by follow 1. */
    private static void goesTo(String plain, String place) {
        SecondNearest s = on(plain, "follow 1");
        s.tick(0, 1);
        due("one STEP on '" + plain + "'", where(s, 0), place);
    }

    private static void behindHisTurn() {
        says("Who stands on a GATE behind his turn is OUT (there no more), also if he did not go. STEPS are counted.");
        SecondNearest s = on("row G.;person 0 0 1 1;herald 1 0", "stand", "follow 1");
        due("there before", s.cell(0, 0, 1), 0);
        due("one STEP", s.tick(0, 1), 1);
        due("did not go, OUT", s.person(0, 4), 1);
        due("nobody there", s.cell(0, 0, 1), NONE);
        due("OUT", s.count(5), 1);
        due("STEPS are counted though nobody is there", s.tick(0, 3), 4);
        SecondNearest t = on("row .G..;person 1 0 1 1;herald 3 0", "follow 1");
        t.tick(0, 1);
        due("he went off it: not OUT", t.person(0, 0), 2);
        due("none OUT", t.count(5), 0);
        // nobody goes in the first STEP, but one is OUT, so that the other one SEES the HERALD alone and goes in the second
        SecondNearest rest = on("row .G.;person 0 0 1 1;person 1 0 1 2;herald 2 0", "follow 1 if sort=1 and seen=1");
        due("none goes at first", rest.ahead(0, 1, 1), 0);
        due("but one is OUT", rest.ahead(0, 1, 0), 1);
        due("both behind two", rest.ahead(0, 2, 0), 2);
        rest.tick(0, 200);
        due("OUT at the second", rest.person(0, 4), 2);
        // 0 is OUT through the GATE; 1 has his turn behind him and finds it FREE
        SecondNearest u = on("row .G.;row .~.;person 0 0 1 1;person 0 1 1 1;herald 2 0", "follow 2 if seen=2;follow 1");
        due("both in one STEP", u.ahead(0, 1, 0), 2);
        due("both went", u.ahead(0, 1, 1), 2);
        // 1 follows 0 and finds him OUT at his turn: the HERALD is then the first
        SecondNearest v = on("row G....;person 0 0 1 1;person 2 0 1 1;herald 4 0", "follow 1 if sort=1 and x>0;stand");
        due("now he follows 0", v.follows(0, 1), 0);
        v.tick(0, 1);
        due("at his turn the HERALD", v.person(1, 0), 3);
        // of two on GATES the second stands there until his turn: 0 can't go to his CELL
        SecondNearest w = on("row .G.;person 0 0 1 1;person 1 0 1 1;herald 2 0", "follow 2;stand");
        w.tick(0, 1);
        due("0 was barred", w.person(0, 0), 0);
        due("1 is OUT", w.person(1, 4), 1);
    }

    private static void tickToTheLimit() {
        says("So many STEPS (1 to 200) by a LAW: how many were done in all; NONE, and nothing happens, without these (no PLAIN).");
        for (int n : new int[] {0, -1, 201, WILD[0], WILD[1]}) {
            stays("tick(0, " + n + ")", Check::busy, s -> s.tick(0, n), NONE);
        }
        for (int law : new int[] {-1, 2, 5, 6, WILD[0], WILD[1]}) {
            stays("tick(" + law + ", 1)", Check::busy, s -> s.tick(law, 1), NONE);
        }
        stays("tick(0, 1) without a PLAIN", () -> withLaw("stand"), s -> s.tick(0, 1), NONE);
        stays("tick(0, 1) without a LAW", () -> on("row .;person 0 0 1 1"), s -> s.tick(0, 1), NONE);
        SecondNearest s = on("row .G..;row ~#..;person 0 0 30 4;person 3 1 7 9;herald 2 0", "follow 1", "stand");
        due("1", s.tick(1, 1), 1);
        due("200", s.tick(1, 200), 201);
        due("by the other LAW", s.tick(0, 1), 202);
        due("OUT at", s.person(0, 4), 202);
        // 200 at once are 200 one by one
        SecondNearest a = PlanBoundaries.late(0);
        SecondNearest b = PlanBoundaries.late(0);
        a.tick(1, 200);
        for (int i = 0; i < 200; i++) {
            b.tick(1, 1);
        }
        for (int p = 0; p < 8; p++) {
            due("PERSON " + p, where(a, p), where(b, p));
        }
        b.tick(1, 1);
        due("STEPS", a.count(4) + b.count(4), 401);
    }

    private static void followsAnswers() {
        says("Whom a PERSON FOLLOWS now; -2: nobody, or he is OUT; NONE without these.");
        SecondNearest s = busy();
        due("a HERALD", s.follows(0, 1), 12);
        due("nobody", s.follows(1, 1), -2);
        due("he is OUT", s.follows(0, 0), -2);
        for (int p : new int[] {-1, 2, 11, 12, WILD[0], WILD[1]}) {
            due("PERSON " + p, s.follows(0, p), NONE);
        }
        for (int law : new int[] {-1, 2, 6, WILD[0], WILD[1]}) {
            due("LAW " + law, s.follows(law, 1), NONE);
            due("LAW " + law + ", he is OUT", s.follows(law, 0), NONE);
        }
        due("no PLAIN", withLaw("follow 1").follows(0, 0), NONE);
        SecondNearest t = on("row ..;person 0 0 1 1;person 1 0 1 1", "follow 1", "follow 2");
        due("he could not go", t.follows(0, 0), 1);
        due("nor the other", t.follows(0, 1), 0);
        due("SEES not so many", t.follows(1, 0), -2);
    }

    static void run() {
        personsAnswers();
        heraldsAnswers();
        kindsAndWhoStands();
        cellsBeyond();
        stepsToAGate();
        cells();
        distances();
        firstAndLast();
        nothingBetween();
        linesOfSight();
        sightsOfAWanderer();
        theOrder();
        seesAnswers();
        seenAnswers();
        ways();
        goesAnswers();
        freeCells();
        heraldOnAGate();
        turns();
        clauses();
        placesOfTheOrder();
        whereOneGoes();
        behindHisTurn();
        tickToTheLimit();
        followsAnswers();
    }
}
