/** The sentences on texts (TAPE, PLAIN, LAWS) that name a boundary: promises 1 to 5 and I. of the terms. */
final class TextBoundaries extends Check {
    private TextBoundaries() { }

    private static SecondNearest taken(String text, int people) {
        SecondNearest s = busy();
        due("plain() of '" + text + "'", plain(s, text), people);
        due("the TAPE behind it", s.count(8), 0);
        return s;
    }

    /** The FAULT is told, and all stays but the TAPE, which is empty. */
    private static void refused(String text, int place, int kind) {
        SecondNearest s = busy();
        String before = state(s);
        due("plain() of '" + text + "'", plain(s, text), fault(place, kind));
        due("all behind '" + text + "'", state(s), before);
    }

    private static void lawTaken(String text) {
        SecondNearest s = busy();
        due("law() of '" + text + "'", law(s, text), 2);
        due("LAWS", s.count(7), 3);
        due("the TAPE behind it", s.count(8), 0);
    }

    private static void lawRefused(String text, int place, int kind) {
        SecondNearest s = busy();
        String before = state(s);
        due("law() of '" + text + "'", law(s, text), fault(place, kind));
        due("all behind '" + text + "'", state(s), before);
        due("there is no LAW 2", s.tick(2, 1), NONE);
        due("the next one has its number", law(s, "stand"), 2);
    }

    /** Whether a TEST holds for PERSON 0, who SEES somebody. */
    private static void holds(String plain, String test, boolean want) {
        SecondNearest s = on(plain, "follow 1 if " + test);
        due("'" + test + "' on '" + plain + "'", s.follows(0, 0) >= 0, want);
    }

    private static final String TWO = "row ..;person 0 0 5 1;herald 1 0";

    private static void holds(String test, boolean want) {
        holds(TWO, test, want);
    }

    /** The value of a SUM for PERSON 0, on both sides of it. */
    private static void is(String plain, String sum, int value) {
        holds(plain, sum + "=" + value, true);
        holds(plain, sum + "<=" + value, true);
        holds(plain, sum + ">=" + value, true);
        holds(plain, sum + "<" + value, false);
        holds(plain, sum + ">" + value, false);
    }

    // ---- promises 1 to 5

    private static void theConstant() {
        says("`NONE = -1`: None.");
        due("NONE", SecondNearest.NONE, -1);
    }

    private static void aNewObject() {
        says("No PLAIN, no LAWS.");
        SecondNearest s = new SecondNearest();
        due("all of it", state(s), "count 0 0 0 0 0 0 0 0 0 0");
        due("no CELL", s.cell(0, 0, 0), NONE);
        due("no PERSON", s.person(0, 0), NONE);
        due("no HERALD", s.herald(0, 0), NONE);
        due("no LAW", s.tick(0, 1), NONE);
        due("no IMAGE", s.back(0), NONE);
        due("the first LAW", law(s, "stand"), 0);
        due("a LAW alone is not enough", s.tick(0, 1), NONE);
        due("a PLAIN", plain(s, "row ."), 0);
        due("both", s.tick(0, 1), 1);
    }

    private static void feedTwentyBytes() {
        says("Twenty bytes come behind the TAPE, of each number the highest first: how many it has");
        SecondNearest s = new SecondNearest();
        due("from none", s.feed(0x726f7720, 0x2e234720, 0x3b686572, 0x616c6420, 0x30203020), 20);
        due("it is a PLAIN", s.plain(), 0);
        due("of three columns", s.count(0), 3);
        due("the second a WALL", s.cell(1, 0, 0), 1);
        due("the third a GATE", s.cell(2, 0, 0), 3);
        due("from none again", s.feed(-1, 0x80000000, 0x7fffffff, 1, 0), 20);
        due("bytes above 127", s.plain(), fault(0, 0));
    }

    private static void feedToTheLimit() {
        says("NONE, and none comes, if it would have more than 400.");
        SecondNearest t = new SecondNearest();
        tell(t, "row ..;herald 0" + times(" ", 364) + "0");
        due("380 bytes", t.count(8), 380);
        due("to 400", t.feed(0x20202020, 0x20202020, 0x20202020, 0x20202020, 0x20202020), 400);
        due("beyond", t.feed(0x3b3b3b3b, 0x3b3b3b3b, 0x3b3b3b3b, 0x3b3b3b3b, 0x3b3b3b3b), NONE);
        due("400 stay", t.count(8), 400);
        due("and they are what they were", t.plain(), 0);
        due("a HERALD", t.count(3), 1);
        tell(t, "row ..;herald 1" + times(" ", 365) + "0");
        due("381 bytes and 20 more", t.feed(0x3b3b3b3b, 0x3b3b3b3b, 0x3b3b3b3b, 0x3b3b3b3b, 0x3b3b3b3b), NONE);
        due("381 stay", t.count(8), 381);
        due("and they are what they were", t.plain(), 0);
        due("the HERALD", t.herald(0, 0), 1);
    }

    private static void endWithin() {
        says("The TAPE has its first n bytes alone: n; NONE, and nothing happens, if it has not so many, or n is below 0.");
        SecondNearest s = new SecondNearest();
        due("0 of none", s.end(0), 0);
        due("1 of none", s.end(1), NONE);
        due("-1 of none", s.end(-1), NONE);
        s.feed(0x726f7720, 0x2e2e2e2e, 0x2e2e2e2e, 0x2e2e2e2e, 0x20202020);
        due("all 20", s.end(20), 20);
        due("21", s.end(21), NONE);
        due("20 stay", s.count(8), 20);
        due("-1", s.end(-1), NONE);
        due("the least number", s.end(Integer.MIN_VALUE), NONE);
        due("the greatest", s.end(Integer.MAX_VALUE), NONE);
        due("20 stay still", s.count(8), 20);
        due("19", s.end(19), 19);
        due("20 are no more", s.end(20), NONE);
        due("5", s.end(5), 5);
        due("bytes", s.count(8), 5);
        due("the first ones", s.plain(), 0);
        due("one column", s.count(0), 1);
        s.feed(0, 0, 0, 0, 0);
        due("none of them", s.end(0), 0);
        due("what comes then is the first", s.feed(0x726f7720, 0x2e2e2020, 0x20202020, 0x20202020, 0x20202020), 20);
        due("a PLAIN", s.plain(), 0);
        for (int i = 0; i < 20; i++) {
            s.feed(0, 0, 0, 0, 0);
        }
        due("401 of 400", s.end(401), NONE);
        due("400 of 400", s.end(400), 400);
        // what was behind the first n is not looked at: a word, a number, SIGNS and blanks end there
        due("a word is cut", lawOfFirst("standing", 5), 0);
        due("a number is cut", lawOfFirst("follow 12", 8), 0);
        due("a value is cut", lawOfFirst("stand if x=123456", 16), 0);
        due("a word of a value is cut", lawOfFirst("stand if 1=xx", 12), 0);
        due("blanks are cut", lawOfFirst("stand if     x=1", 8), fault(8, 0));
        due("a SIGN is cut", lawOfFirst("stand if x<=1", 11), fault(11, 0));
        due("a CLAUSE is cut", lawOfFirst("stand;stand", 6), fault(6, 0));
        tell(s, "row ....");
        due("first 6", s.end(6), 6);
        due("SIGNS are cut", s.plain(), 0);
        due("two columns", s.count(0), 2);
    }

    private static int lawOfFirst(String text, int n) {
        SecondNearest s = new SecondNearest();
        tell(s, text);
        due("the first of '" + text + "'", s.end(n), n);
        return s.law();
    }

    private static void plainInPlace() {
        says("The TAPE, which is empty then, is the PLAIN in place of the one there was (STEPS 0, nobody OUT, no SPOORS): how many PEOPLE");
        SecondNearest s = busy();
        due("OUT before", s.count(5), 1);
        due("STEPS before", s.count(4), 1);
        due("SPOORS before", s.count(6), 2);
        due("PEOPLE", plain(s, "row ..;person 1 0 2 3"), 1);
        due("all of it", state(s), "count 2 1 1 0 0 0 0 2 0 0; person 1 0 2 3 -1 sees 0[]; row 0/-1/99 0/0/99"
            + "; law judged -2 follows -2; law judged -2 follows -2");
        due("PERSON 1 is no more", s.person(1, 2), NONE);
        due("nor HERALD 0", s.herald(0, 0), NONE);
        due("STEPS from 0", s.tick(1, 1), 1);
        due("SPOORS from 0: nobody else to follow", s.spoor(1, 0, 1), -2);
        due("he comes OUT", plain(s, "row G;person 0 0 2 3") + s.tick(1, 1), 2);
        due("at STEP 1", s.person(0, 4), 1);
        due("the same anew", plain(s, "row G;person 0 0 2 3"), 1);
        due("nobody OUT", s.person(0, 4), NONE);
        due("twelve on GATES", plain(s, "row GGGGGGGGGGGG" + peopleOfARow(12)) + s.tick(1, 1), 13);
        due("the last came OUT", s.person(11, 4), 1);
        due("twelve anew", plain(s, "row ............" + peopleOfARow(12)), 12);
        due("the last is not OUT", s.person(11, 4), NONE);
        due("nobody", plain(s, "row ."), 0);
        due("twelve", plain(s, "row ............" + peopleOfARow(12)), 12);
    }

    private static void plainWithAFault() {
        says("-2 - its FAULT, and all stays.");
        refused("", 0, 0);
        refused("row .;person 0 0 1 1;person 0 0 1 1", 28, 5);
        SecondNearest t = busy();
        due("an IMAGE", t.image(0), 1);
        tell(t, "row x");
        due("a FAULT", t.plain(), fault(4, 0));
        due("the TAPE is empty", t.count(8), 0);
        due("and once more: that of an empty one", t.plain(), fault(0, 0));
        due("the IMAGE stays", t.back(0), 1);
        due("STEPS go on", t.tick(1, 1), 2);
        SecondNearest u = new SecondNearest();
        due("a FAULT without a PLAIN", plain(u, "row .;person 0 0 1"), fault(18, 0));
        due("there is none still", state(u), "count 0 0 0 0 0 0 0 0 0 0");
    }

    private static void lawsOrFaults() {
        says("The TAPE, which is empty then, is a LAW: its number; -2 - its FAULT; NONE, and nothing happens: there are 6.");
        SecondNearest s = on("row ..;person 0 0 1 1;herald 1 0");
        due("a FAULT at the end", law(s, "stand if 1=1;follow 1 if 1=1;"), fault(29, 0));
        due("the TAPE is empty", s.count(8), 0);
        due("no LAW", s.count(7), 0);
        due("the next one", law(s, "follow 1 if 1=2"), 0);
        due("the TAPE is empty", s.count(8), 0);
        due("nothing is left of the one before", s.follows(0, 0), -2);
        for (int i = 1; i < 6; i++) {
            due("LAW " + i, law(s, i == 5 ? "follow 1" : "stand"), i);
        }
        String before = state(s);
        due("a seventh from an empty TAPE", s.law(), NONE);
        due("all stays", state(s), before);
        due("a seventh with a FAULT", law(s, "x"), NONE);
        due("its byte stays", s.count(8), 1);
        tell(s, "row ...;person 1 0 1 1;herald 0 0");
        due("a seventh", s.law(), NONE);
        due("the TAPE stays", s.count(8), 33);
        due("it is what it was", s.plain(), 1);
        due("columns", s.count(0), 3);
        due("LAWS", s.count(7), 6);
        due("LAW 5 is what it was", s.follows(5, 0), 12);
        due("LAW 0 too", s.follows(0, 0), -2);
    }

    private static void sixLaws() {
        says("LAWS 0 to 5");
        SecondNearest s = on("row ..;person 0 0 1 1;herald 1 0");
        due("none", s.follows(0, 0), NONE);
        for (int i = 0; i < 6; i++) {
            due("LAW " + i, law(s, i % 2 == 0 ? "stand" : "follow 1"), i);
            due("LAWS", s.count(7), i + 1);
            due("by it", s.follows(i, 0), i % 2 == 0 ? -2 : 12);
            due("by the next one", s.follows(i + 1, 0), NONE);
        }
        due("a seventh", law(s, "stand"), NONE);
        due("by LAW 5", s.follows(5, 0), 12);
        due("by LAW 6", s.follows(6, 0), NONE);
        due("by LAW -1", s.follows(-1, 0), NONE);
    }

    // ---- I.: the PLAIN

    private static void fourHundredBytes() {
        says("A PLAIN is a text of at most 400 bytes");
        SecondNearest s = taken("row ..;row ..;herald 0" + times(" ", 377) + "1", 0);
        due("the 400th byte counts", s.herald(0, 1), 1);
        refused("row ..;row ..;herald 0" + times(" ", 378), 400, 0);
        refused("row ..;row ..;herald 0" + times(" ", 377) + "2", 21, 5);
        refused("row ." + times(" ", 394) + ".", 399, 0);
        due("a SIGN as the 400th byte", taken("row .;row" + times(" ", 390) + ".", 0).count(1), 2);
        refused("row .;row" + times(" ", 390) + ";", 399, 0);
        lawTaken(times(" ", 395) + "stand");
        lawTaken("stand if [x=1" + times(" ", 386) + "]");
        lawTaken("stand if 1=" + times(" ", 386) + "age");
        lawRefused("stand if 1=" + times(" ", 387) + "ag", 398, 0);
        lawTaken("stand if x=" + times(" ", 388) + "1");
        lawRefused("stand if x=" + times(" ", 389), 400, 0);
        lawRefused("stand if x=1" + times(" ", 387) + "!", 399, 0);
    }

    private static String peopleOfAColumn(int n) {
        StringBuilder s = new StringBuilder();
        for (int i = 0; i < n; i++) {
            s.append(";person 0 ").append(i).append(" 0 0");
        }
        return s.toString();
    }

    private static void mostClauses() {
        says("CLAUSE { ; CLAUSE }, 32 at most");
        // 12 rows, 12 PEOPLE and 2 HERALDS are all there can be: 26; each 27th is one too many of its kind
        String all = "row .." + times(";row ..", 11) + peopleOfAColumn(12) + ";herald 1 0;herald 1 11";
        SecondNearest s = taken(all, 12);
        due("rows", s.count(1), 12);
        due("PEOPLE", s.count(2), 12);
        due("HERALDS", s.count(3), 2);
        due("the last PERSON", s.person(11, 1), 11);
        due("the last HERALD", s.herald(1, 1), 11);
        refused(all + ";row ..", all.length() + 1, 4);
        refused(all + ";person 1 5 1 1", all.length() + 1, 4);
        refused(all + ";herald 1 5", all.length() + 1, 4);
        refused(all + ";", all.length() + 1, 0);
        refused(";row .", 0, 0);
        refused("row .;;row .", 6, 0);
    }

    private static void signsOfARow() {
        says("row SIGN { SIGN } (1 to 12 SIGNS, no blanks between)");
        due("one", taken("row .", 0).count(0), 1);
        due("twelve", taken("row ............", 0).count(0), 12);
        refused("row", 3, 0);
        refused("row ", 4, 0);
        refused("row ;row .", 4, 0);
        refused("row .............", 16, 5);
        refused("row . .", 6, 0);
        refused("row ...... ......", 11, 0);
    }

    private static void kindsOfSigns() {
        says(". plain, # WALL, ~ POND, G GATE");
        SecondNearest s = taken("row .#~G", 0);
        for (int x = 0; x < 4; x++) {
            due("kind at " + x, s.cell(x, 0, 0), x);
        }
        refused("row .g", 5, 0);
        refused("row g", 4, 0);
        refused("row ." + (char) 127, 5, 0);
        refused("row ." + (char) 0xae, 5, 0);
        refused("row .\u0000", 5, 0);
    }

    private static void numbersOfAPerson() {
        says("person NUMBER NUMBER NUMBER NUMBER (x, y, age 0 to 99, sort 0 to 9)");
        SecondNearest s = taken("row ...;person 0 0 0 0;person 2 0 99 9", 2);
        due("age 0", s.person(0, 2), 0);
        due("sort 0", s.person(0, 3), 0);
        due("age 99", s.person(1, 2), 99);
        due("sort 9", s.person(1, 3), 9);
        refused("row .;person 0 0 100 9", 17, 1);
        refused("row .;person 0 0 99999 9", 17, 1);
        refused("row .;person 0 0 -1 9", 17, 0);
        refused("row .;person 0 0 99 10", 20, 1);
        refused("row .;person 0 0 99 -1", 20, 0);
        refused("row .;person 0 0 99", 19, 0);
        refused("row .;person 0 0 99 9 9", 22, 0);
    }

    private static void numbersOfAHerald() {
        says("herald NUMBER NUMBER (x, y)");
        due("HERALD 0", taken("row ..;herald 1 0", 0).herald(0, 0), 1);
        refused("row .;herald 0", 14, 0);
        refused("row .;herald 0 0 0", 17, 0);
    }

    private static void numbersForXAndY() {
        says("NUMBERS for x, y: 0 to 11.");
        SecondNearest t = taken(SQUARE + ";person 0 0 1 1;person 11 0 1 1;herald 0 11;herald 11 11", 2);
        due("x 11", t.person(1, 0), 11);
        due("y 11", t.herald(0, 1), 11);
        due("both", t.cell(11, 11, 1), 13);
        int behind = SQUARE.length();
        refused(SQUARE + ";person 12 0 1 1", behind + 8, 1);
        refused(SQUARE + ";person 11 12 1 1", behind + 11, 1);
        refused(SQUARE + ";herald 12 0", behind + 8, 1);
        refused(SQUARE + ";herald 0 12", behind + 10, 1);
        refused(SQUARE + ";herald -1 0", behind + 8, 0);
    }

    private static void rowsToTwelve() {
        says("1 to 12 rows, all ahead of PEOPLE and HERALDS, alike long, one at least");
        due("one", taken("row .", 0).count(1), 1);
        SecondNearest s = taken("row ." + times(";row .", 10) + ";row G", 0);
        due("twelve", s.count(1), 12);
        due("the twelfth", s.cell(0, 11, 0), 3);
        refused("row ." + times(";row .", 12), 72, 4);
        refused("", 0, 0);
        refused("    ", 4, 0);
        refused("row ..;person 0 0 1 1;row ..", 22, 4);
        refused("row ..;herald 0 0;row ..", 18, 4);
        refused("row ..;row .", 11, 5);
        refused("row ..;row ...", 13, 5);
    }

    private static void peopleAndHeralds() {
        says("PEOPLE 0 to 11, HERALDS 0 and 1, in the order told.");
        SecondNearest t = taken("row ......;herald 5 0;person 4 0 1 1;herald 3 0;person 2 0 2 2", 2);
        due("PERSON 0", t.person(0, 0), 4);
        due("PERSON 1", t.person(1, 0), 2);
        due("HERALD 0", t.herald(0, 0), 5);
        due("HERALD 1", t.herald(1, 0), 3);
        String twelve = "row ............;row ............" + peopleOfARow(12);
        SecondNearest u = taken(twelve, 12);
        due("PERSON 11", u.person(11, 0), 11);
        due("PERSON 12", u.person(12, 0), NONE);
        refused(twelve + ";person 0 1 0 0", twelve.length() + 1, 4);
        refused("row ...;herald 0 0;herald 1 0;herald 2 0", 30, 4);
    }

    private static void whereTheyStand() {
        says("PEOPLE and HERALDS stand on CELLS that are plain or GATES, one on each.");
        SecondNearest s = taken("row .G.G;person 0 0 1 1;person 1 0 1 1;herald 2 0;herald 3 0", 2);
        due("PERSON on plain", s.cell(0, 0, 1), 0);
        due("PERSON on a GATE", s.cell(1, 0, 1), 1);
        due("HERALD on plain", s.cell(2, 0, 1), 12);
        due("HERALD on a GATE", s.cell(3, 0, 1), 13);
        for (String who : new String[] {";person 1 0 1 1", ";herald 1 0"}) {
            refused("row .#" + who, 14, 5);
            refused("row .~" + who, 14, 5);
            refused("row ..;person 1 0 1 1" + who, 29, 5);
            refused("row ..;herald 1 0" + who, 25, 5);
        }
    }

    // ---- FAULTS of a PLAIN

    private static void faultOfAByteOrWord() {
        says("0 a byte or word that can't stand there, or the end (behind the last byte; also without a row)");
        refused("", 0, 0);
        refused(" ", 1, 0);
        refused(".", 0, 0);
        refused("rows .", 0, 0);
        refused("ro .", 0, 0);
        refused("ROW .", 0, 0);
        refused("roW .", 0, 0);
        refused("stand", 0, 0);
        refused("row .;people 0 0 1 1", 6, 0);
        refused("row .;", 6, 0);
        refused("row .;  ", 8, 0);
        refused("row .,", 5, 0);
        refused("row . person 0 0 1 1", 6, 0);
        refused("row .;person", 12, 0);
        refused("row .;person ", 13, 0);
        refused("row .;person 0", 14, 0);
        refused("row .;person 0 0", 16, 0);
        refused("row .;person 0 0 1", 18, 0);
        refused("row .;person x 0 1 1", 13, 0);
        refused("row .;personx 0 0 1 1", 6, 0);
        refused("row .;person 0;0 1 1", 14, 0);
        refused("row .;herald 0 0;;", 17, 0);
    }

    private static void faultOfANumber() {
        says("1 a NUMBER of more digits (5 at most), or not as told (at it)");
        SecondNearest s = taken("row ..;row ..;person 00001 00000 00099 00009;herald 00000 00001", 1);
        due("x of five digits", s.person(0, 0), 1);
        due("age of five digits", s.person(0, 2), 99);
        due("y of five digits", s.herald(0, 1), 1);
        refused("row .;person 000000 0 1 1", 13, 1);
        refused("row .;person 0 000000 1 1", 15, 1);
        refused("row .;person 0 0 000001 1", 17, 1);
        refused("row .;person 0 0 1 000001", 19, 1);
        refused("row .;herald  000000 0", 14, 1);
        refused("row .;herald 0  99999999999", 16, 1);
        refused("row .;herald 0 4294967296", 15, 1);
    }

    private static void faultOfAClause() {
        says("4 one CLAUSE too many, a 13th row, PERSON, a third HERALD, a row behind one of these, one of these ahead of the rows"
            + " (at its first byte)");
        refused("row ." + times(";row .", 11) + ";  row x", 74, 4);
        refused("row ............" + peopleOfARow(12) + "; person x", 16 + 12 * 15 + 4 + 2, 4);
        refused("row ...;herald 0 0;herald 1 0; herald x", 31, 4);
        refused("row ..;person 0 0 1 1; row x", 23, 4);
        refused("row ..;herald 0 0; row", 19, 4);
        refused("person", 0, 4);
        refused(" person x", 1, 4);
        refused("herald 0 0;row .", 0, 4);
    }

    private static void faultOfARow() {
        says("5 a row that is not so long as the first one, a 13th SIGN (at its last SIGN; of the 13th at it)");
        due("alike", taken("row ..;row ..", 0).count(1), 2);
        refused("row ..;row .;row ..", 11, 5);
        refused("row ..;row ...;row ..", 13, 5);
        refused("row ..;row ............", 22, 5);
        refused("row ..;row ..;row .", 18, 5);
        refused("row ............;row ...........", 31, 5);
        refused("row ............;row .............", 33, 5);
        refused("row ..;row ..............", 23, 5);
        refused("row ...............", 16, 5);
        refused("row ............x", 16, 0);
    }

    private static void faultOfAPlace() {
        says("a PERSON or HERALD who stands beyond the rows, on a WALL or POND, or where one stands already"
            + " (at its first NUMBER, as soon as y is told)");
        SecondNearest s = taken("row ...;row ...;person 2 1 1 1;herald 0 1", 1);
        due("the last CELL", s.cell(2, 1, 1), 0);
        for (String who : new String[] {"person", "herald"}) {
            refused("row ...;row ...;" + who + " 3 1", 23, 5);
            refused("row ...;row ...;" + who + " 2 2", 23, 5);
            refused("row ...;row ...;" + who + "  3 0 x", 24, 5);
            refused("row ...;row ...;" + who + " 3", 24, 0);
            refused("row ...;row ...;" + who + " 3 ", 25, 0);
            refused("row ...;row ...;" + who + " 3 x", 25, 0);
            refused("row ...;row ...;" + who + " 3 12", 25, 1);
            refused("row ...;row ...;" + who + " 3 000000", 25, 1);
            refused("row #~;" + who + " 0 0 x", 14, 5);
            refused("row #~;" + who + " 1 0 x", 14, 5);
        }
        refused("row ..;herald 0 0;person 0 0", 25, 5);
        refused("row ..;person 0 0 1 1;herald 0 0 x", 29, 5);
    }

    private static void theFirstFault() {
        says("FAULTS, the first along the text, 1 + 8 * its place and");
        refused("row x;row y", 4, 0);
        refused("row ..;row .x", 11, 5);
        refused("row ..;person 2 0 100 10", 14, 5);
        refused("row ..;person 1 0 100 10", 18, 1);
        refused("row ..;person 1 0 99 10;", 21, 1);
    }

    private static void theLeastFault() {
        says("Of one place the least.");
        refused("row ..;person 12 0 1 1", 14, 1);
        refused("row ..;person 000002 0 1 1", 14, 1);
        lawRefused("stand" + times(";stand", 11) + ";stnd", 72, 0);
        lawRefused("stand" + times(";stand", 11) + ";", 72, 0);
        lawRefused("stand if 1" + times("+1", 59) + "+zz", 129, 0);
        lawRefused("stand if 1" + times("+1", 59) + "+123456", 129, 1);
        lawRefused("stand if 1" + times("+1", 59) + "!", 128, 0);
    }

    // ---- I.: LAWS

    private static void clausesOfALaw() {
        says("texts likewise, 12 CLAUSES at most");
        SecondNearest s = on(TWO, "stand if x=1" + times(";stand if x=1", 10) + ";follow 1");
        due("the twelfth counts", s.follows(0, 0), 12);
        lawTaken("stand");
        lawRefused("", 0, 0);
        lawRefused("  ", 2, 0);
        lawTaken("stand" + times(";stand", 11));
    }

    private static void thirteenthClause() {
        says("4 a thirteenth CLAUSE (at its first byte)");
        lawRefused("stand" + times(";stand", 12), 72, 4);
        lawRefused("stand" + times(";stand", 11) + ";  follow 0", 74, 4);
        lawRefused("stand" + times(";stand", 11) + ";stand if", 72, 4);
    }

    private static void placesToFollow() {
        says("follow NUMBER [ if TEST ] (1 to 9)");
        // the one in the midst SEES eight on the CELLS beside him, and a ninth further off
        SecondNearest t = on("row ....;row ....;row ....;person 1 1 0 0;person 0 0 1 1;person 1 0 1 1;person 2 0 1 1;person 0 1 1 1"
            + ";person 2 1 1 1;person 0 2 1 1;person 1 2 1 1;person 2 2 1 1;herald 3 1", "follow 9", "follow 1", "follow 8");
        due("follow 9", t.follows(0, 0), 12);
        due("follow 1", t.follows(1, 0), 2);
        due("follow 8", t.follows(2, 0), 8);
        lawRefused("follow 0", 7, 1);
        lawRefused("follow 10", 7, 1);
        lawTaken("follow 00009");
        lawRefused("follow 000009", 7, 1);
        lawRefused("follow", 6, 0);
        lawRefused("follow if x=1", 7, 0);
        lawRefused("follow x", 7, 0);
        lawRefused("follow 1 2", 9, 0);
        lawRefused("follow 1 if", 11, 0);
    }

    private static void standing() {
        says("stand [ if TEST ]");
        lawRefused("stand 1", 6, 0);
        lawRefused("stand if", 8, 0);
        lawRefused("stand if ;stand", 9, 0);
        lawRefused("stand iff x=1", 6, 0);
    }

    private static void faultsLikewise() {
        says("FAULTS 0, 1 likewise");
        lawRefused("row .", 0, 0);
        lawRefused("Stand", 0, 0);
        lawRefused("stand;", 6, 0);
        lawRefused("stand; ", 7, 0);
        lawRefused("stand,", 5, 0);
        lawRefused("stand if x=123456", 11, 1);
    }

    private static void testsAndParts() {
        says("TEST: PART { or PART }. PART: FACT { and FACT }.");
        holds("1=1 or 1=1 and 1=2", true);
        holds("1=2 and 1=1 or 1=1", true);
        holds("1=2 or 1=2 and 1=1", false);
        lawRefused("stand if x=1 or", 15, 0);
        lawRefused("stand if x=1 and", 16, 0);
        lawRefused("stand if or x=1", 9, 0);
        lawRefused("stand if x=1 or or x=1", 16, 0);
    }

    private static void facts() {
        says("FACT: not FACT | [ TEST ] (these brackets are signs) | SUM SIGN SUM, SIGN one of < <= = >= >.");
        int[][] pairs = {{4, 5}, {5, 5}, {6, 5}};
        String[] signs = {"<", "<=", "=", ">=", ">"};
        boolean[][] want = {{true, true, false, false, false}, {false, true, true, true, false}, {false, false, false, true, true}};
        for (int i = 0; i < pairs.length; i++) {
            for (int k = 0; k < signs.length; k++) {
                holds(pairs[i][0] + signs[k] + pairs[i][1], want[i][k]);
                holds("not " + pairs[i][0] + signs[k] + pairs[i][1], !want[i][k]);
            }
        }
        lawRefused("stand if x", 10, 0);
        lawRefused("stand if x=", 11, 0);
        lawRefused("stand if =x", 9, 0);
        lawRefused("stand if x==1", 11, 0);
        lawRefused("stand if x=<1", 11, 0);
        lawRefused("stand if x=>1", 11, 0);
        lawRefused("stand if x<>1", 11, 0);
        lawRefused("stand if x< =1", 12, 0);
        lawRefused("stand if x!=1", 10, 0);
        lawRefused("stand if x<1<2", 12, 0);
        lawRefused("stand if []", 10, 0);
        lawRefused("stand if [x=1", 13, 0);
        lawRefused("stand if [x=1;stand", 13, 0);
        lawRefused("stand if x=1]", 12, 0);
        lawRefused("stand if not", 12, 0);
        lawRefused("stand if [x]=1", 11, 0);
        lawRefused("stand if x not =1", 11, 0);
    }

    private static void sumsAndTerms() {
        says("SUM: TERM { (+ or -) TERM }. TERM: VALUE { (* or / or %) VALUE }.");
        holds("7-2-1=4", true);
        holds("7-2*3=1", true);
        holds("2*3-7+1=0", true);
        holds("17%10/2*3=9", true);
        lawRefused("stand if x+", 11, 0);
        lawRefused("stand if x+=1", 11, 0);
        lawRefused("stand if +x=1", 9, 0);
        lawRefused("stand if x--1=1", 11, 0);
        lawRefused("stand if x*[1]=1", 11, 0);
    }

    private static void values() {
        says("VALUE: NUMBER (1 to 5 digits, as far as digits go on) | WORD.");
        holds("99999=99998+1", true);
        holds("00000=0", true);
        lawTaken("stand if 0=99999");
        lawRefused("stand if 100000=1", 9, 1);
        lawRefused("stand if 100000 1", 9, 1);
        lawRefused("stand if x+100000 1=1", 11, 1);
        lawRefused("stand if 000000=1", 9, 1);
        lawRefused("stand if 1 2=1", 11, 0);
        lawRefused("stand if 1x=1", 10, 0);
        lawRefused("stand if 1:=1", 10, 0);
        lawRefused("stand if :=1", 9, 0);
        lawRefused("stand if /=1", 9, 0);
        holds("90=89+1", true);
    }

    private static void words() {
        says("WORDS (small letters, as far as these go on) of a PERSON");
        lawTaken("stand if x=y and age=sort and seen=near and gate=beside and elder=1");
        lawRefused("stand if xx=1", 9, 0);
        lawRefused("stand if xand y=1", 9, 0);
        lawRefused("stand if ag=1", 9, 0);
        lawRefused("stand if ages=1", 9, 0);
        lawRefused("stand if agE=1", 9, 0);
        lawRefused("stand if xa=1", 9, 0);
        lawRefused("stand if xz=1", 9, 0);
        lawRefused("stand if x`=1", 10, 0);
        lawRefused("stand if x{=1", 10, 0);
        lawRefused("stand if x1=1", 10, 0);
        lawTaken("stand if not1=1");
        lawRefused("stand if notx=1", 9, 0);
        lawRefused("standif x=1", 0, 0);
        lawTaken("follow1if x=1and y=2or not[x=1]");
    }

    private static void blanks() {
        says("Blanks (32) stand between as one likes.");
        lawTaken("  follow  1  if  [  x  +  1  <=  2  ]  and  not  y  =  1  ;  stand  ");
        lawTaken("follow 1 if[x+1<=2]and not y=1;stand");
        lawRefused("st and", 0, 0);
        lawRefused("stand if x=1 2", 13, 0);
        lawRefused("stand\tif x=1", 5, 0);
        lawRefused("stand\n", 5, 0);
        lawRefused("stand" + (char) 160, 5, 0);
        lawRefused("stand\u0000", 5, 0);
        taken("  row  .#  ;  row..  ;  person0  0  1  1;herald 1 1  ", 1);
        refused("row\t.", 3, 0);
        refused("row .\n", 5, 0);
    }

    private static void plainWords() {
        says("x, y, age, sort, seen (how many he SEES)");
        is("row ............;person 11 0 99 9;herald 10 0", "x", 11);
        is("row ..;person 0 0 0 0;herald 1 0", "x+y+age+sort", 0);
        is("row ." + times(";row .", 11) + ";person 0 11 99 9;herald 0 10", "y", 11);
        is("row ..;person 0 0 99 9;herald 1 0", "age", 99);
        is("row ..;person 0 0 99 9;herald 1 0", "sort", 9);
        is("row ............;row ............" + peopleOfARow(12) + ";herald 0 1;herald 1 1", "seen", 13);
        is("row .#.;row ...;person 0 0 1 1;herald 0 1;herald 2 0", "seen", 1);
    }

    private static void wordNear() {
        says("near (DISTANCE to the nearest of these; 0 without any)");
        is("row ..;row ..;person 0 0 1 1;herald 1 0;herald 1 1", "near", 1);
        is("row ..;row ..;person 0 0 1 1;herald 1 1", "near", 2);
        is(SQUARE + ";person 0 0 1 1;herald 11 11", "near", 242);
        // without any he follows nobody, whatever near is: all that can be seen is that he stands
        SecondNearest t = on("row .#.;person 0 0 1 1;herald 2 0", "follow 1 if near=0;follow 1", "follow 1 if near>0");
        due("without any", t.sees(0), 0);
        due("nobody to follow", t.follows(0, 0), -2);
        due("nobody to follow", t.follows(1, 0), -2);
        due("he stands", t.ahead(0, 200, 1), 0);
    }

    private static void wordGate() {
        says("gate (fewest STEPS to a GATE; 99 without a way)");
        is("row G.;person 0 0 1 1;herald 1 0", "gate", 0);
        is("row G.;row ..;person 1 1 1 1;herald 1 0", "gate", 1);
        is("row ..;person 0 0 1 1;herald 1 0", "gate", 99);
        is("row .~G;row .#G;person 0 0 1 1;herald 0 1", "gate", 99);
        is(LONG_WAY + ";person 0 11 1 1;herald 0 10", "gate", 66);
    }

    private static void wordBeside() {
        says("beside (how many stand on the eight CELLS beside him)");
        is("row ...;person 0 0 1 1;herald 2 0", "beside", 0);
        is("row ...;person 0 0 1 1;herald 1 0", "beside", 1);
        is("row ...;row ...;row ...;person 1 1 0 0;person 0 0 1 1;person 1 0 1 1;person 2 0 1 1;person 0 1 1 1;person 2 1 1 1"
            + ";person 0 2 1 1;herald 1 2;herald 2 2", "beside", 8);
        SecondNearest four = on("row .....;person 0 0 1 1;person 1 0 1 1;person 2 0 1 1;person 4 0 1 1", "follow 1 if beside=0",
            "follow 1 if beside=1", "follow 1 if beside=2", "follow 1 if beside=3");
        int[] beside = {1, 2, 1, 0};
        for (int p = 0; p < 4; p++) {
            for (int n = 0; n < 4; n++) {
                due("beside " + p + ": " + n, four.follows(n, p) >= 0, beside[p] == n);
            }
        }
    }

    private static void wordElder() {
        says("elder (1 if none he SEES is older, else 0)");
        StringBuilder younger = new StringBuilder("row ............");
        for (int i = 0; i < 12; i++) {
            younger.append(";person ").append(i).append(" 0 ").append(11 - i).append(" 0");
        }
        SecondNearest twelve = on(younger.toString(), "follow 1 if elder=1", "follow 1 if elder=0");
        for (int p = 0; p < 12; p++) {
            due("elder of " + p, twelve.follows(0, p) >= 0, p == 0);
            due("not elder of " + p, twelve.follows(1, p) >= 0, p != 0);
        }
        is("row ..;person 0 0 5 1;person 1 0 5 1", "elder", 1);
        is("row ..;person 0 0 5 1;person 1 0 6 1", "elder", 0);
        is("row ..;person 0 0 5 1;person 1 0 4 1", "elder", 1);
        is("row ..;person 0 0 0 1;herald 1 0", "elder", 1);
        is("row ..#.;person 0 0 0 1;herald 1 0;person 3 0 99 1", "elder", 1);
        is("row ....;person 0 0 98 1;herald 1 0;person 3 0 99 1", "elder", 0);
    }

    private static void sumsAtTheirEdges() {
        says("/ is towards 0, % its rest, both 0 by 0; all goes round in 64 bits.");
        is(TWO, "7/2", 3);
        is(TWO, "8/2", 4);
        is(TWO, "7%2", 1);
        is(TWO, "8%2", 0);
        is(TWO, "7/0", 0);
        is(TWO, "7%0", 0);
        is(TWO, "0/0", 0);
        is(TWO, "0%0", 0);
        is(TWO, "7/x+7%y", 0);
        is(TWO, "7*2/0+3", 3);
        String least = "65536*65536*65536*32768";
        holds(least + "<0", true);
        holds(least + "-1>0", true);
        holds(least + "+" + least + "=0", true);
        // 2 to the 63rd is 8 above a multiple of 10, 2 above one of 3
        is(TWO, least + "%10+8", 0);
        is(TWO, least + "%3+2", 0);
        // by 3 it is 3074457345618258602 and 2/3, downwards it would be odd
        is(TWO, least + "/3%2", 0);
        is(TWO, least + "/32768/65536/65536+65536", 0);
        is(TWO, "65536*65536*65536*65536", 0);
        is(TWO, "65536*65536*65536*65536+1", 1);
        holds("65536*65536*65536*32767>0", true);
    }

    private static void depthOfATest() {
        says("[ and not lie within one another 10 deep at most");
        String ten = "[not [not [not [not [not ";
        lawTaken("stand if " + times("[", 10) + "x=1" + times("]", 10));
        lawTaken("stand if " + times("not ", 10) + "x=1");
        lawTaken("stand if " + ten + "x=1]]]]]");
        lawTaken("stand if " + times("[", 10) + "x=1" + times("]", 10) + " or " + times("[", 10) + "x=1" + times("]", 10));
        lawTaken("stand if " + times("[", 9) + "[x=1] and [x=1] or not x=1" + times("]", 9));
        lawTaken("stand if " + times("not ", 10) + "x=1;stand if " + times("not ", 10) + "x=1");
        holds(times("not ", 10) + "x=0", true);
        holds(times("not ", 9) + "x=0", false);
        holds(times("[1=2 or ", 10) + "x=0" + times("]", 10), true);
        holds(times("[1=1 and ", 10) + "x=1" + times("]", 10), false);
    }

    private static void tooDeep() {
        says("2 too deep (at the sign that opens, or the word not)");
        String ten = "[not [not [not [not [not ";
        lawRefused("stand if " + times("[", 11) + "x=1" + times("]", 11), 19, 2);
        lawRefused("stand if " + times("not ", 11) + "x=1", 49, 2);
        lawRefused("stand if " + ten + "[x=1]]]]]]", 34, 2);
        lawRefused("stand if " + ten + " not x=1]]]]]", 35, 2);
        lawRefused("stand if x=1 or " + times("[", 9) + "x=1 and [ not y=1", 16 + 9 + 8 + 2, 2);
        lawRefused("stand if " + times("[", 10) + "x=1 or [", 19 + 7, 2);
        lawRefused("stand if " + times("[", 10) + "nothing", 19, 0);
    }

    private static void sizeOfALaw() {
        says("at most 60 VALUES (of SUMS) and FACTS made of a SIGN, together.");
        lawTaken("stand if 1" + times("+1", 57) + "=1");
        lawTaken("stand if x=1" + times(" or x=1", 19));
        lawTaken("follow 9 if x=1 or x=1" + times(";follow 9 if x=1 or x=1", 9));
        lawTaken("stand if not [x=1]" + times(" or not [x=1]", 19));
        SecondNearest s = new SecondNearest();
        for (int i = 0; i < 6; i++) {
            due("one too many", law(s, "stand if 1" + times("+1", 58) + "=1"), fault(9 + 2 * 59, 3));
            due("each LAW by itself", law(s, "stand if 1" + times("+1", 57) + "=1"), i);
        }
        holds("1=2" + times(" or 1=2", 18) + " or x=0", true);
        holds("1" + times("+1", 57) + "=58", true);
        holds("58=1" + times("+1", 57), true);
        holds("x=1" + times(" or x=1", 19), false);
    }

    private static void tooLarge() {
        says("3 one VALUE or FACT too many (at its first byte; of a FACT at its SIGN)");
        lawRefused("stand if 1" + times("+1", 58) + "= 1", 10 + 2 * 58 + 2, 3);
        lawRefused("stand if 1" + times("+1", 59) + " <=1", 10 + 2 * 59 + 1, 3);
        lawRefused("stand if 1" + times("+1", 60) + "=1", 10 + 2 * 60 - 1, 3);
        lawRefused("stand if x=1" + times(" or x=1", 19) + " or age=1", 12 + 7 * 19 + 4, 3);
        lawRefused("stand if x=1" + times(" or x=1", 18) + " or x+1=1", 12 + 7 * 18 + 8, 3);
        lawRefused("stand if x=1 or x=1" + times(";stand if x=1 or x=1", 9) + ";stand;stand if near=1", 20 * 10 - 1 + 6 + 10, 3);
        lawRefused("stand if x=1" + times(" or x=1", 19) + " or " + times("[", 11), 12 + 7 * 19 + 4 + 10, 2);
    }

    static void run() {
        theConstant();
        aNewObject();
        feedTwentyBytes();
        feedToTheLimit();
        endWithin();
        plainInPlace();
        plainWithAFault();
        lawsOrFaults();
        sixLaws();
        fourHundredBytes();
        mostClauses();
        signsOfARow();
        kindsOfSigns();
        numbersOfAPerson();
        numbersOfAHerald();
        numbersForXAndY();
        rowsToTwelve();
        peopleAndHeralds();
        whereTheyStand();
        faultOfAByteOrWord();
        faultOfANumber();
        faultOfAClause();
        faultOfARow();
        faultOfAPlace();
        theFirstFault();
        theLeastFault();
        clausesOfALaw();
        thirteenthClause();
        placesToFollow();
        standing();
        faultsLikewise();
        testsAndParts();
        facts();
        sumsAndTerms();
        values();
        words();
        blanks();
        plainWords();
        wordNear();
        wordGate();
        wordBeside();
        wordElder();
        sumsAtTheirEdges();
        depthOfATest();
        tooDeep();
        sizeOfALaw();
        tooLarge();
    }
}
