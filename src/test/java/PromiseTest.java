/** Each promise by itself: ordinary inputs, the edges that the document names, wrong inputs; answers worked out by hand but where said. */
public final class PromiseTest extends Check {
    private PromiseTest() { }

    private static void plainFault(String text, int place, int kind) {
        SecondNearest s = on("row ..;person 1 0 3 4");
        due("plain() of '" + text + "'", plain(s, text), fault(place, kind));
        due("columns behind '" + text + "'", s.count(0), 2);
        due("PEOPLE behind '" + text + "'", s.count(2), 1);
        due("x behind '" + text + "'", s.person(0, 0), 1);
        due("TAPE behind '" + text + "'", s.count(8), 0);
    }

    private static void lawFault(String text, int place, int kind) {
        SecondNearest s = new SecondNearest();
        due("law() of '" + text + "'", law(s, text), fault(place, kind));
        due("LAWS behind '" + text + "'", s.count(7), 0);
        due("TAPE behind '" + text + "'", s.count(8), 0);
    }

    private static void goodLaw(String text) {
        due("law() of '" + text + "'", law(new SecondNearest(), text), 0);
    }

    /** Whether a TEST holds for PERSON 0: then he follows the one PERSON or HERALD he sees, else he stands. */
    private static void holds(String plain, String test, boolean want) {
        SecondNearest s = on(plain, "follow 1 if " + test);
        due("'" + test + "' on '" + plain + "'", s.follows(0, 0) >= 0 ? 1 : 0, want ? 1 : 0);
    }

    private static void p1() {
        SecondNearest s = new SecondNearest();
        for (int what = 0; what <= 9; what++) {
            due("count(" + what + ")", s.count(what), 0);
        }
        due("person", s.person(0, 2), NONE);
        due("herald", s.herald(0, 0), NONE);
        due("cell", s.cell(0, 0, 0), NONE);
        due("sees", s.sees(12), NONE);
        due("seen", s.seen(0, 1), NONE);
        due("goes", s.goes(0, 2) ? 1 : 0, 0);
        due("back", s.back(0), NONE);
        due("NONE", SecondNearest.NONE, -1);
    }

    private static void p2() {
        SecondNearest s = new SecondNearest();
        for (int i = 1; i <= 20; i++) {
            due("feed " + i, s.feed(0, 0, 0, 0, 0), 20 * i);
        }
        due("feed beyond 400", s.feed(0, 0, 0, 0, 0), NONE);
        due("bytes", s.count(8), 400);
        s.end(381);
        due("feed to 401", s.feed(0, 0, 0, 0, 0), NONE);
        due("bytes", s.count(8), 381);
        s.end(380);
        due("feed to 400", s.feed(0, 0, 0, 0, 0), 400);
        s.end(0);
        due("the highest byte first", s.feed(0x726f7720, 0x2e472e47, 0x20202020, 0x20202020, 0x20202020), 20);
        due("plain", s.plain(), 0);
        due("its columns", s.count(0), 4);
        due("its GATES", s.count(9), 2);
        s.feed(-1, -1, -1, -1, -1);
        s.end(1);
        due("a byte 255", s.plain(), fault(0, 0));
    }

    private static void p3() {
        SecondNearest s = new SecondNearest();
        due("end(1) of none", s.end(1), NONE);
        due("end(0) of none", s.end(0), 0);
        s.feed(0x726f7720, 0x2e2e2e2e, 0, 0, 0);
        due("end(-1)", s.end(-1), NONE);
        due("end(21)", s.end(21), NONE);
        due("bytes", s.count(8), 20);
        due("end(20)", s.end(20), 20);
        due("end(7)", s.end(7), 7);
        due("end(8)", s.end(8), NONE);
        due("plain", s.plain(), 0);
        due("columns", s.count(0), 3);
    }

    private static void p4() {
        due("blanks as one likes", plain(new SecondNearest(), "  row.G ; row  ~# ;person0 00 099  9;herald   1 0  "), 1);
        due("twelve of each", plain(new SecondNearest(), "row ............" + times(";row ............", 11)
            + ";person 0 0 1 1;person 1 0 1 1;person 2 0 1 1;person 3 0 1 1;person 4 0 1 1;person 5 0 1 1;person 6 0 1 1"
            + ";person 7 0 1 1;person 8 0 1 1;person 9 0 1 1;herald 0 1;herald 1 1"), 10);
        String people = "row ............";
        for (int i = 0; i < 12; i++) {
            people = people + ";person " + i + " 0 0 0";
        }
        due("twelve PEOPLE", plain(new SecondNearest(), people), 12);
        plainFault(people + ";person 0 0 0 0", people.length() + 1, 4);
        SecondNearest s = on("row ..G;person 0 0 1 1;herald 1 0", "follow 1");
        s.spoor(1, 0, 12);
        s.tick(0, 3);
        due("another PLAIN", plain(s, "row .;row ."), 0);
        for (int[] c : new int[][] {{0, 1}, {1, 2}, {2, 0}, {3, 0}, {4, 0}, {5, 0}, {6, 0}, {7, 1}, {9, 0}}) {
            due("count(" + c[0] + ") of it", s.count(c[0]), c[1]);
        }
        due("the one before is gone", s.person(0, 2), NONE);
        due("its HERALD too", s.cell(0, 0, 1), NONE);

        plainFault("", 0, 0);
        plainFault("   ", 3, 0);
        plainFault("row", 3, 0);
        plainFault("row ;", 4, 0);
        plainFault("rows .", 0, 0);
        plainFault("Row .", 0, 0);
        plainFault("row .;", 6, 0);
        plainFault("row .; ", 7, 0);
        plainFault("row .;;row .", 6, 0);
        plainFault("row . .", 6, 0);
        plainFault("row .x", 5, 0);
        plainFault("row .;person", 12, 0);
        plainFault("row .;person 0 0 1", 18, 0);
        plainFault("row .;person 0 0 1 1 1", 21, 0);
        plainFault("row .;person 0,0 1 1", 14, 0);
        plainFault("row .;person -1 0 1 1", 13, 0);
        plainFault("row .;person 0 0 1 1herald", 20, 0);
        plainFault("row .;wall 0 0", 6, 0);
        plainFault("row .;person 000000 0 1 1", 13, 1);
        plainFault("row .;person 12 0 1 1", 13, 1);
        plainFault("row .;person 5 12 1 1", 15, 1);
        plainFault("row .;person 5 x 1 1", 15, 0);
        plainFault("row .;person 0 0 100 1", 17, 1);
        plainFault("row .;person 0 0 1 10", 19, 1);
        plainFault("row .;herald 0 99999", 15, 1);
        plainFault("person 0 0 1 1", 0, 4);
        plainFault(" herald 0 0;row .", 1, 4);
        plainFault("row ..;person 0 0 1 1; row ..", 23, 4);
        plainFault("row ..;herald 0 0;row .", 18, 4);
        plainFault("row ...;herald 0 0;herald 1 0;herald 2 0", 30, 4);
        plainFault("row ." + times(";row .", 12), 72, 4);
        plainFault("row ..;row .", 11, 5);
        plainFault("row ..;row .x", 11, 5);
        plainFault("row ..;row ...;", 13, 5);
        plainFault("row .............", 16, 5);
        plainFault("row ..;row ..............", 23, 5);
        plainFault("row ..;person 2 0 100 1", 14, 5);
        plainFault("row ..;person 0 1 1 1", 14, 5);
        plainFault("row .#;herald 1 0", 14, 5);
        plainFault("row .~;person  1 0 1 1", 15, 5);
        plainFault("row ..;person 0 0 1 1;person 0 0 x", 29, 5);
        plainFault("row ..;herald 0 0;person 0 0 1 1", 25, 5);
    }

    private static void p5() {
        SecondNearest s = new SecondNearest();
        for (int i = 0; i < 6; i++) {
            due("LAW " + i, law(s, "stand"), i);
        }
        tell(s, "follow 1");
        due("a seventh", s.law(), NONE);
        due("the TAPE stays", s.count(8), 8);
        goodLaw(" follow9if x<1and not[y>=2or 1 <=seen];stand ");
        SecondNearest after = on("row ..;person 0 0 1 1;herald 1 0");
        law(after, "stand if 1=2;follow 1;follow 1;follow 1;");
        law(after, "follow 1 if 1=2");
        due("nothing is left of a text with a FAULT", after.follows(0, 0), -2);
        goodLaw("stand if 00001 = 99999");
        goodLaw("stand" + times(";stand", 11));
        goodLaw("stand if " + times("[", 10) + "x=1" + times("]", 10));
        goodLaw("stand if " + times("not ", 10) + "x=1 and " + times("not ", 10) + "y=1");
        goodLaw("stand if 1" + times("+1", 57) + "=1");
        goodLaw("stand if x=1" + times(" or x=1", 19));
        lawFault("", 0, 0);
        lawFault("stands", 0, 0);
        lawFault("stand;", 6, 0);
        lawFault("stand 1", 6, 0);
        lawFault("stand if", 8, 0);
        lawFault("stand if if", 9, 0);
        lawFault("stand if x", 10, 0);
        lawFault("stand if x=", 11, 0);
        lawFault("stand if x=1 y", 13, 0);
        lawFault("stand if x=1 or", 15, 0);
        lawFault("stand if x==1", 11, 0);
        lawFault("stand if x< =1", 12, 0);
        lawFault("stand if x=<1", 11, 0);
        lawFault("stand if -x<1", 9, 0);
        lawFault("stand if [x<1", 13, 0);
        lawFault("stand if x<1]", 12, 0);
        lawFault("stand if x<1<2", 12, 0);
        lawFault("stand if notx<1", 9, 0);
        lawFault("stand if ages<1", 9, 0);
        lawFault("stand if x+[y=1]", 11, 0);
        lawFault("stand if [0-7]/2=3", 13, 0);
        lawFault("stand if X=1", 9, 0);
        lawFault("stand if xz=1", 9, 0);
        lawFault("stand if xa=1", 9, 0);
        lawFault("follow", 6, 0);
        lawFault("follow if x=1", 7, 0);
        lawFault("follow 0", 7, 1);
        lawFault("follow 10", 7, 1);
        lawFault("follow 000001", 7, 1);
        lawFault("stand if 123456<1", 9, 1);
        lawFault("stand if " + times("[", 11) + "x=1", 19, 2);
        lawFault("stand if " + times("[", 10) + "not x=1", 19, 2);
        lawFault("stand if " + times("not ", 11) + "x=1", 49, 2);
        lawFault("stand if 1" + times("+1", 58) + "=1", 9 + 2 * 59, 3);
        lawFault("stand if 1" + times("+1", 59) + "=1", 10 + 2 * 59, 3);
        lawFault("stand if 1" + times("+1", 60) + "=1", 10 + 2 * 59 + 1, 3);
        lawFault("stand if 1" + times("+1", 59) + "+zz", 10 + 2 * 59 + 1, 0);
        lawFault("stand if 1" + times("+1", 59) + "+123456", 10 + 2 * 59 + 1, 1);
        lawFault("stand if 1" + times("+1", 59) + "?", 10 + 2 * 59, 0);
        lawFault("stand if x=1" + times(";stand if x=1", 20), 13 * 12, 4);
        lawFault("stand" + times(";stand", 11) + "; follow 1", 73, 4);
        lawFault("stand" + times(";stand", 11) + ";stnd", 72, 0);
        lawFault("stand" + times(";stand", 11) + ";", 72, 0);
        p5Values();
    }

    private static void p5Values() {
        String two = "row ...;row ...;row ...;person 1 2 30 7;person 2 0 31 1";
        holds(two, "x=1", true);
        holds(two, "y=2", true);
        holds(two, "age=30", true);
        holds(two, "sort=7", true);
        holds(two, "seen=1", true);
        holds(two, "near=5", true);
        holds(two, "gate=99", true);
        holds(two, "beside=0", true);
        holds(two, "elder=0", true);
        holds("row ..;person 0 0 5 1;person 1 0 5 1", "elder=1 and beside=1 and near=1", true);
        holds("row ..;person 0 0 0 1;herald 1 0", "elder=1 and beside=1", true);
        holds("row .#.;row G~.;person 0 0 5 1;herald 2 1", "gate=1 and seen=1", true);
        holds("row .#.;row G~.;person 2 0 5 1;herald 2 1", "gate=99", true);
        holds("row G..;person 0 0 5 1;herald 2 0", "gate=0", true);
        holds(two, "2+3*4=14", true);
        holds(two, "20/3*3=18", true);
        holds(two, "20-5-3=12", true);
        holds(two, "7-9/2*2+1=0", true);
        holds("row ..;person 0 0 0 1;herald 1 0", "0-7/2=0-3", true);
        holds("row ..;person 0 0 0 1;herald 1 0", "7%3=1 and 7/0=0 and 7%0=0", true);
        holds("row ..;person 0 0 0 1;herald 1 0", "99999*99999*99999*99999>0", true);
        holds("row ..;person 0 0 0 1;herald 1 0", "65536*32768*65536*65536<0", true);
        holds(two, "1<1", false);
        holds(two, "1<=1", true);
        holds(two, "1>1", false);
        holds(two, "1>=1", true);
        holds(two, "1=2", false);
        holds(two, "1=1 or 1=1 and 1=2", true);
        holds(two, "[1=1 or 1=1] and 1=2", false);
        holds(two, "1=2 and 1=1 or 1=1", true);
        holds(two, "not 1=1 or 1=1", true);
        holds(two, "not [1=1 or 1=1]", false);
        holds(two, "not not 1=1", true);
        holds(two, "not 1=2 and 1=2", false);
    }

    private static void p6() {
        SecondNearest s = on("row .G;row ..;person 0 0 12 3;person 0 1 99 9;herald 1 1", "follow 1 if y=0");
        int[][] want = {{0, 0, 12, 3, NONE}, {0, 1, 99, 9, NONE}};
        for (int p = 0; p < 2; p++) {
            for (int what = 0; what < 5; what++) {
                due("person(" + p + "," + what + ")", s.person(p, what), want[p][what]);
            }
        }
        due("what -1", s.person(0, -1), NONE);
        due("what 5", s.person(0, 5), NONE);
        due("person -1", s.person(-1, 2), NONE);
        due("person 2", s.person(2, 2), NONE);
        due("person 12", s.person(12, 0), NONE);
        SecondNearest t = on("row .G.;person 0 0 12 3;herald 2 0", "follow 1");
        t.tick(0, 5);
        int[] out = {NONE, NONE, 12, 3, 1};
        for (int what = 0; what < 5; what++) {
            due("of one OUT " + what, t.person(0, what), out[what]);
        }
    }

    private static void p7() {
        SecondNearest s = on("row ...;row ...;herald 2 1;herald 0 1");
        due("x of 0", s.herald(0, 0), 2);
        due("y of 0", s.herald(0, 1), 1);
        due("x of 1", s.herald(1, 0), 0);
        due("herald 2", s.herald(2, 0), NONE);
        due("herald -1", s.herald(-1, 0), NONE);
        due("what 2", s.herald(0, 2), NONE);
        due("what -1", s.herald(0, -1), NONE);
        due("none there", on("row .").herald(0, 0), NONE);
    }

    private static void p8() {
        SecondNearest s = on("row .#~G;row ##~~;row ...#;person 0 0 1 1;herald 3 0;herald 0 2");
        int[] kinds = {0, 1, 2, 3};
        int[] toGate = {99, 99, 99, 0};
        int[] who = {0, NONE, NONE, 12};
        for (int x = 0; x < 4; x++) {
            due("kind", s.cell(x, 0, 0), kinds[x]);
            due("who", s.cell(x, 0, 1), who[x]);
            due("STEPS", s.cell(x, 0, 2), toGate[x]);
        }
        due("who at 0, 2", s.cell(0, 2, 1), 13);
        due("x 4", s.cell(4, 0, 0), NONE);
        due("x -1", s.cell(-1, 0, 0), NONE);
        due("y 3", s.cell(0, 3, 0), NONE);
        due("y -1", s.cell(0, -1, 0), NONE);
        due("what 3", s.cell(0, 0, 3), NONE);
        due("what -1", s.cell(0, 0, -1), NONE);
        SecondNearest t = on("row ..#.;row .#..;row G#.#;person 0 1 1 1");
        due("aslant between WALLS", t.cell(2, 1, 2), 3);
        due("and on", t.cell(3, 0, 2), 4);
        due("below", t.cell(2, 2, 2), 4);
        due("over one who stands there", t.cell(0, 0, 2), 2);
    }

    private static void p9() {
        SecondNearest s = on("row .#..;row .~..;row ....;person 0 0 1 1;person 2 0 1 1;person 0 2 1 1;herald 3 0");
        due("0: a WALL before 1 and the HERALD", s.sees(0), 1);
        due("1: all but 0", s.sees(1), 2);
        due("2: all; a POND hides nobody", s.sees(2), 3);
        due("the HERALD", s.sees(12), 2);
        due("no HERALD 1", s.sees(13), NONE);
        due("no PERSON 3", s.sees(3), NONE);
        due("-1", s.sees(-1), NONE);
        // from (0,0) to (2,1): the CELL between is at x (2*2+2)/4 = 1, y (2*1+2)/4 = 1
        due("the CELL between is (1,1)", on("row .#.;row ...;person 0 0 1 1;herald 2 1").sees(0), 1);
        due("and hides there", on("row ...;row .#.;person 0 0 1 1;herald 2 1").sees(0), 0);
        // from (2,0) to (0,1): dx -2, dy 1: x 2 + (-4+2)/4 downwards = 1, y (2+2)/4 = 1
        due("to the left (1,1)", on("row .#.;row ...;person 2 0 1 1;herald 0 1").sees(0), 1);
        due("and hides there too", on("row ...;row .#.;herald 2 0;person 0 1 1 1").sees(0), 0);
        // from (1,0) to (0,2): n 2, dx -1: x 1 + (-2+2)/4 = 1, y 1
        due("down and left by (1,1)", on("row ..;row #.;row ..;person 1 0 1 1;herald 0 2").sees(0), 1);
        due("hidden at (1,1)", on("row ..;row .#;row ..;person 1 0 1 1;herald 0 2").sees(12), 0);
        // from (3,0) to (0,1): n 3, dx -3, dy 1: k 1 x 2, y (2+3)/6 = 0; k 2 x 1, y (4+3)/6 = 1
        due("a longer line", on("row .#..;row ..#.;person 3 0 1 1;herald 0 1").sees(0), 1);
        due("hidden at (2,0)", on("row ..#.;row ....;person 3 0 1 1;herald 0 1").sees(0), 0);
        due("hidden at (1,1)", on("row ....;row .#..;person 3 0 1 1;herald 0 1").sees(0), 0);
        SecondNearest t = on("row .G;person 0 0 1 1;person 1 0 1 1", "stand");
        t.tick(0, 1);
        due("one who is OUT", t.sees(1), -2);
        due("is SEEN no more", t.sees(0), 0);
        SecondNearest u = on("row ...;person 0 0 1 1;herald 2 0", "stand");
        due("nothing between", u.sees(0), 1);
        u.image(0);
        plain(u, "row .#.;person 0 0 1 1;herald 2 0");
        due("a WALL in another PLAIN", u.sees(0), 0);
        due("and again", u.sees(0), 0);
        u.back(0);
        due("and back", u.sees(0), 1);
    }

    private static void p10() {
        SecondNearest s = on("row .....;row .....;row .....;herald 2 0;herald 1 1;person 2 2 4 1;person 3 1 9 1"
            + ";person 2 1 0 0;person 0 1 9 1;person 4 1 9 1");
        // from (2,1): 1 at distance 1, 0 at 1, HERALDS at 1, 3 and 4 at 4
        int[] want = {1, 0, 12, 13, 3, 4};
        for (int i = 0; i < want.length; i++) {
            due("place " + (i + 1), s.seen(2, i + 1), want[i]);
        }
        due("beyond", s.seen(2, 7), -2);
        due("far beyond", s.seen(2, Integer.MAX_VALUE), -2);
        due("place 0", s.seen(2, 0), NONE);
        due("place -1", s.seen(2, -1), NONE);
        due("who 5", s.seen(5, 1), NONE);
        due("who 14", s.seen(14, 1), NONE);
        due("a HERALD's first: PERSON 2 ahead of the others", s.seen(12, 1), 2);
        due("his second: the older", s.seen(12, 2), 1);
        due("his third: HERALD 1", s.seen(12, 3), 13);
        SecondNearest t = on("row .G;person 0 0 1 1;person 1 0 1 1", "stand");
        t.tick(0, 1);
        due("one who is OUT", t.seen(1, 1), -2);
        due("OUT, place 0", t.seen(1, 0), NONE);
        due("nobody left", t.seen(0, 1), -2);
    }

    private static void p11() {
        SecondNearest s = on("row ...;row ...;row ...;herald 1 1");
        int[][] at = {{1, 0}, {2, 0}, {2, 1}, {2, 2}, {1, 2}, {0, 2}, {0, 1}, {0, 0}};
        for (int way = 0; way < 8; way++) {
            due("way " + way, s.goes(0, way) ? 1 : 0, 1);
            due("x", s.herald(0, 0), at[way][0]);
            due("y", s.herald(0, 1), at[way][1]);
            due("he stands there", s.cell(at[way][0], at[way][1], 1), 12);
            due("and not here", s.cell(1, 1, 1), NONE);
            due("and back", s.goes(0, (way + 4) % 8) ? 1 : 0, 1);
        }
        due("STEPS", s.count(4), 0);
        SecondNearest u = on("row ...;herald 0 0;herald 2 0");
        due("HERALD 1 goes", u.goes(1, 6) ? 1 : 0, 1);
        due("x of HERALD 1", u.herald(1, 0), 1);
        due("x of HERALD 0", u.herald(0, 0), 0);
        due("HERALD 0 is barred by him", u.goes(0, 2) ? 1 : 0, 0);
        SecondNearest t = on("row .#;row G~;row ..;herald 0 0;person 0 2 1 1", "stand");
        due("up, beyond", t.goes(0, 0) ? 1 : 0, 0);
        due("to a WALL", t.goes(0, 2) ? 1 : 0, 0);
        due("to a POND", t.goes(0, 3) ? 1 : 0, 0);
        due("left, beyond", t.goes(0, 6) ? 1 : 0, 0);
        due("way 8", t.goes(0, 8) ? 1 : 0, 0);
        due("way -1", t.goes(0, -1) ? 1 : 0, 0);
        due("herald 1", t.goes(1, 4) ? 1 : 0, 0);
        due("herald -1", t.goes(-1, 4) ? 1 : 0, 0);
        due("to a GATE", t.goes(0, 4) ? 1 : 0, 1);
        due("onto a PERSON", t.goes(0, 4) ? 1 : 0, 0);
        t.tick(0, 1);
        due("he is not OUT", t.herald(0, 1), 1);
    }

    private static void p12() {
        SecondNearest s = on("row ......G;person 0 0 1 1;herald 5 0", "follow 1");
        due("n 0", s.tick(0, 0), NONE);
        due("n 201", s.tick(0, 201), NONE);
        due("law 1", s.tick(1, 1), NONE);
        due("law -1", s.tick(-1, 1), NONE);
        due("STEPS", s.count(4), 0);
        due("one", s.tick(0, 1), 1);
        due("x", s.person(0, 0), 1);
        due("two more", s.tick(0, 2), 3);
        due("x", s.person(0, 0), 3);
        due("200 more", s.tick(0, 200), 203);
        due("he stops beside the HERALD", s.person(0, 0), 4);
        due("no PLAIN", withLaw("stand").tick(0, 1), NONE);
        // of several CELLS alike near, the least WAY; nobody's CELL
        SecondNearest t = on("row ....;row ....;row ....;person 0 1 1 1;person 1 1 1 1;herald 3 1", "follow 2");
        t.tick(0, 1);
        // 0 SEES 1 (distance 1), then the HERALD (9): (1,0) and (1,2) are 5 from him; 1 SEES 0 (1), then the HERALD (4)
        due("0 goes up and right: x", t.person(0, 0), 1);
        due("y", t.person(0, 1), 0);
        due("1 goes right", t.person(1, 0), 2);
        SecondNearest u = on("row G..;row ...;person 1 0 1 1;person 0 0 1 1;person 2 1 1 1;herald 0 1", "follow 1");
        // 0 follows 1 (distance 1, people ahead of the herald at distance 2): nothing nearer; 1 stands on a GATE: OUT;
        // 2 follows 0 (distance 2 to (1,0)): (2,0) or (1,1) at distance 1, the least WAY is up
        u.tick(0, 1);
        due("0 stands", u.person(0, 0), 1);
        due("1 is OUT", u.person(1, 4), 1);
        due("2 goes up: x", u.person(2, 0), 2);
        due("y", u.person(2, 1), 0);
        due("OUT", u.count(5), 1);
        SecondNearest v = on("row .G.;row ...;person 1 0 1 1;herald 1 1;herald 2 1", "follow 2");
        v.tick(0, 1);
        due("off the GATE in time: not OUT", v.person(0, 4), NONE);
        due("he went right", v.person(0, 0), 2);
        SecondNearest w = on("row .~.;row .#.;person 0 0 1 1;herald 2 0", "follow 1");
        w.tick(0, 1);
        due("neither POND nor WALL", w.person(0, 0), 0);
        SecondNearest z = on("row ...;person 0 0 1 1;herald 2 0", "follow 2;follow 1", "stand if x=0;follow 1", "follow 1 if x=1");
        z.tick(0, 1);
        due("the first CLAUSE says, though he SEES not so many", z.person(0, 0), 0);
        z.tick(1, 1);
        due("stand", z.person(0, 0), 0);
        z.tick(2, 1);
        due("no CLAUSE", z.person(0, 0), 0);
    }

    private static void p13() {
        SecondNearest s = on("row .....;row ....G;person 0 0 1 1;person 1 0 1 1;person 3 0 1 1;herald 0 1;person 4 1 1 1",
            "follow 2 if x<2;stand if x=3;follow 9");
        // 0 at (0,0): 1 at 1, HERALD at 1, 2 at 9, 3 at 17
        due("0", s.follows(0, 0), 12);
        // 1 at (1,0): 0 at 1, HERALD at 2, 2 at 4, 3 at 10
        due("1", s.follows(0, 1), 12);
        due("2 stands", s.follows(0, 2), -2);
        due("3 SEES not nine", s.follows(0, 3), -2);
        due("person 4", s.follows(0, 4), NONE);
        due("person -1", s.follows(0, -1), NONE);
        due("a HERALD", s.follows(0, 12), NONE);
        due("law 1", s.follows(1, 0), NONE);
        due("law -1", s.follows(-1, 0), NONE);
        s.tick(0, 1);
        due("one who is OUT", s.follows(0, 3), -2);
        due("no PLAIN", withLaw("follow 1").follows(0, 0), NONE);
        due("who could not go", on("row ..;person 0 0 1 1;person 1 0 1 1", "follow 1").follows(0, 0), 1);
    }

    private static void p14() {
        SecondNearest s = on("row ..G.;person 0 0 1 1;person 1 0 1 1;herald 3 0", "follow 2");
        // step 1: 0 follows the HERALD, (1,0) is not FREE, so he stands; 1 follows 0 or the HERALD: 0 is at 1, the HERALD at 4:
        // he goes to the GATE and is OUT. Step 2: 0 SEES the HERALD alone, and stands.
        due("OUT behind 0", s.ahead(0, 0, 0), 0);
        due("went behind 0", s.ahead(0, 0, 1), 0);
        due("OUT behind 1", s.ahead(0, 1, 0), 1);
        due("went in 1", s.ahead(0, 1, 1), 1);
        due("went in 2", s.ahead(0, 2, 1), 0);
        due("0 is never OUT", s.ahead(0, 200, 2), -2);
        due("1 is OUT at 1", s.ahead(0, 200, 3), 1);
        due("1 in none", s.ahead(0, 0, 3), -2);
        due("no PERSON 2", s.ahead(0, 1, 4), NONE);
        due("what -1", s.ahead(0, 1, -1), NONE);
        due("n 201", s.ahead(0, 201, 0), NONE);
        due("n -1", s.ahead(0, -1, 0), NONE);
        due("law 1", s.ahead(1, 1, 0), NONE);
        due("no PLAIN", withLaw("stand").ahead(0, 1, 0), NONE);
        due("nothing changes: STEPS", s.count(4), 0);
        due("nothing changes: x", s.person(1, 0), 1);
        s.tick(0, 3);
        due("OUT already", s.ahead(0, 5, 3), 0);
        due("of all OUT", s.ahead(0, 0, 0), 1);
        SecondNearest t = on("row G.;person 0 0 1 1", "stand");
        due("OUT, but did not go", t.ahead(0, 1, 1), 0);
        due("OUT from the GATE", t.ahead(0, 1, 2), 1);
        SecondNearest u = on("row ....G.;person 0 0 1 1;herald 5 0", "follow 1");
        u.tick(0, 2);
        due("the STEP counted from now on", u.ahead(0, 9, 2), 2);
    }

    private static void p15() {
        SecondNearest s = on("row ......;person 0 0 1 1;herald 5 0", "follow 1", "stand");
        due("lead-in: four STEPS", s.round(0, 0), 4);
        due("then all rest", s.round(0, 1), 1);
        due("standing", s.round(1, 0), 0);
        due("standing", s.round(1, 1), 1);
        due("what 2", s.round(0, 2), NONE);
        due("what -1", s.round(0, -1), NONE);
        due("law 2", s.round(2, 0), NONE);
        due("no PLAIN", withLaw("stand").round(0, 0), NONE);
        due("nobody", on("row .", "stand").round(0, 1), 1);
        SecondNearest t = on("row .....;herald 0 0;herald 4 0;person 2 0 1 1", "follow 1 if x=3;follow 2 if x=1;follow 1");
        // x 2: both at 4, HERALD 0 first: to 1; x 1: the second is HERALD 1 (9): to 2; and so on
        due("to and fro: lead-in", t.round(0, 0), 0);
        due("to and fro: STEPS", t.round(0, 1), 2);
        due("nothing changes", t.person(0, 0), 2);
        SecondNearest u = on("row ..G;person 0 0 1 1;herald 2 0;person 1 0 1 1", "stand");
        due("rest from the start", u.round(0, 0), 0);
        SecondNearest v = on("row .G.;person 0 0 1 1;herald 2 0", "follow 1");
        due("OUT and rest", v.round(0, 0), 1);
        due("OUT and rest", v.round(0, 1), 1);
        // found by a search, and told alike by the model: 1188 STEPS ahead of a round of 2
        SecondNearest w = on("row ......;row ......;row ......;row .#....;row #.#...;person 5 1 6 4;person 2 0 6 0;person 5 0 9 3"
            + ";person 1 4 3 3;person 4 4 5 5;person 4 1 6 5;person 3 0 1 1;person 4 0 6 0;person 4 3 3 3;person 2 2 6 1;herald 5 4",
            "follow 9 if seen>1;follow 3");
        due("far beyond 400: LEAD-IN", w.round(0, 0), -2);
        due("far beyond 400: STEPS", w.round(0, 1), -2);
        for (int i = 0; i < 3; i++) {
            w.tick(0, 200);
        }
        due("STEPS done", w.tick(0, 189), 789);
        due("again at 401: LEAD-IN", w.round(0, 0), -2);
        due("again at 401: STEPS", w.round(0, 1), -2);
        w.tick(0, 1);
        due("again at 400: LEAD-IN", w.round(0, 0), 398);
        due("again at 400: STEPS", w.round(0, 1), 2);
    }

    private static void p16() {
        SecondNearest s = on("row .........;person 0 0 1 1;person 1 0 1 1;person 3 0 1 1;person 6 0 1 1;person 7 0 1 1;herald 8 0",
            "follow 1", "follow 2", "stand", "follow 1 if x>6");
        // follow 1: 0-1 a ring, 2 after 1, 3 after 4, 4 (people ahead of HERALDS) after 3
        due("the longest: 2, 1, 0", s.files(0, 0), 3);
        due("RINGS", s.files(0, 1), 2);
        due("in RINGS", s.files(0, 2), 1 + 2 + 8 + 16);
        // follow 2: 0 after 2 (9), 1 after 2 (4), 2 after 3 or 0 (9 each: PERSON 0), 3 at 6: HERALD (4), 4 at 7: the HERALD (1)
        due("1, 2, 0", s.files(1, 0), 3);
        due("RINGS", s.files(1, 1), 1);
        due("in RINGS", s.files(1, 2), 1 + 4);
        due("nobody FOLLOWS: one each", s.files(2, 0), 1);
        due("no RING", s.files(2, 1), 0);
        due("no bits", s.files(2, 2), 0);
        due("4 after 3, who stands", s.files(3, 0), 2);
        due("what 3", s.files(0, 3), NONE);
        due("what -1", s.files(0, -1), NONE);
        due("law 4", s.files(4, 0), NONE);
        due("no PLAIN", withLaw("stand").files(0, 0), NONE);
        due("no PEOPLE", on("row .;herald 0 0", "follow 1").files(0, 0), 0);
    }

    private static void p17() {
        SecondNearest s = on("row .....G;person 0 0 1 1;person 3 0 1 1;herald 4 0;person 5 0 1 1", "follow 1");
        due("without 1: 0 goes right all the same", s.without(0, 1, 1), 0);
        due("n 0", s.without(0, 1, 0), 0);
        due("n 201", s.without(0, 1, 201), NONE);
        due("n -1", s.without(0, 1, -1), NONE);
        due("who 3", s.without(0, 3, 1), NONE);
        due("who 13", s.without(0, 13, 1), NONE);
        due("who -1", s.without(0, -1, 1), NONE);
        due("law 1", s.without(1, 0, 1), NONE);
        due("no PLAIN", withLaw("stand").without(0, 0, 1), NONE);
        // with the HERALD 1 stands beside him and 2 is OUT; without him 0 is at x 1 and 4 from 1, as 2 is: 1 follows 0,
        // the lesser number, to x 2, and 2 follows 1 off the GATE; 0 goes alike
        due("without the HERALD", s.without(0, 12, 1), 2);
        s.tick(0, 1);
        due("one who is OUT", s.without(0, 2, 1), NONE);
        SecondNearest t = on("row .G..;person 0 0 1 1;person 1 0 1 1;person 3 0 1 1", "stand");
        SecondNearest u = on("row ..G.;person 0 0 1 1;person 1 0 9 1;herald 3 0", "follow 1 if age=9;follow 2 if seen>1;follow 1");
        // with 1: he follows 0 (distance 1): stands; 0 follows the HERALD, is barred. Without 1: 0 is OUT behind two STEPS
        due("in the way", u.without(0, 1, 2), 1);
        due("OUT, but he is none of the others", t.without(0, 1, 3), 0);
        due("OUT alike", t.without(0, 2, 3), 0);
        due("nothing changes", u.count(4) + u.person(0, 0), 0);
    }

    private static void p18() {
        SecondNearest s = on("row ..G.;person 0 0 1 1;person 1 0 9 1;herald 3 0", "follow 1 if age=9;follow 2 if seen>1;follow 1", "stand");
        // without 0: 1 follows the HERALD, and is OUT: 1 elsewhere; without 1: 0 is elsewhere; without the HERALD: 0 stands alike
        due("who", s.leader(0, 2, 0), 0);
        due("how many", s.leader(0, 2, 1), 1);
        due("of none the least", s.leader(1, 5, 0), 0);
        due("none", s.leader(1, 5, 1), 0);
        SecondNearest t = on("row .......;person 0 0 1 1;person 6 0 9 1;herald 3 0", "follow 1 if near=9");
        due("the HERALD", t.leader(0, 1, 0), 12);
        due("both", t.leader(0, 1, 1), 2);
        due("nothing changes", t.person(0, 0), 0);
        SecondNearest u = on("row G;person 0 0 1 1", "stand");
        u.tick(0, 1);
        due("nobody: who", u.leader(0, 1, 0), -2);
        due("nobody: how many", u.leader(0, 1, 1), -2);
        SecondNearest v = on("row G.;person 0 0 1 1;herald 1 0", "stand");
        v.tick(0, 1);
        due("a HERALD alone", v.leader(0, 1, 0), 12);
        due("n 201", s.leader(0, 201, 0), NONE);
        due("n -1", s.leader(0, -1, 0), NONE);
        due("n 200", s.leader(1, 200, 1), 0);
        due("what 2", s.leader(0, 1, 2), NONE);
        due("what -1", s.leader(0, 1, -1), NONE);
        due("law 2", s.leader(2, 1, 0), NONE);
        due("no PLAIN", withLaw("stand").leader(0, 1, 0), NONE);
    }

    private static void p19() {
        SecondNearest s = on("row .....;row #.###;row #.#G.;row #...#;herald 0 0;person 2 3 1 1", "follow 1");
        // he SEES along row 3 and aslant; from (4,2) the HERALD draws him from (2,3) over (3,2), the GATE: distances from
        // (2,3) to (4,2) 5; (3,2) 1, (3,3) 2. Earlier CELLS: none of (0..4,0) draws him to the GATE; (1,1), (1,2), (3,2) itself
        due("where", s.post(0, 1, 0), 12 * 2 + 4);
        due("how many", s.post(0, 1, 1), 1);
        due("the HERALD stays", s.herald(0, 0), 0);
        due("n 0: the first CELL of all, his own", s.post(0, 0, 0), 0);
        due("n 0: none OUT", s.post(0, 0, 1), 0);
        SecondNearest t = on("row ..G..;herald 4 0;person 3 0 1 1", "follow 1");
        due("the first of several", t.post(0, 2, 0), 0);
        SecondNearest u = on("row #.G.;herald 1 0;person 3 0 1 1", "follow 1");
        due("where he is, too", u.post(0, 1, 0), 1);
        SecondNearest v = on("row .G..;person 0 0 1 1;herald 3 0", "follow 1");
        due("not on the GATE, but behind it", v.post(0, 1, 0), 2);
        due("n 60", u.post(0, 60, 1), 1);
        due("n 61", u.post(0, 61, 1), NONE);
        due("n -1", u.post(0, -1, 1), NONE);
        due("what 2", u.post(0, 1, 2), NONE);
        due("what -1", u.post(0, 1, -1), NONE);
        due("law 1", u.post(1, 1, 0), NONE);
        due("no HERALD", on("row .;person 0 0 1 1", "stand").post(0, 1, 0), NONE);
        due("no PLAIN", withLaw("stand").post(0, 1, 0), NONE);
    }

    private static void p20() {
        SecondNearest s = on("row ....;row .G..;row ....;herald 2 2;person 2 0 1 1", "follow 1");
        // up (2,1): nothing is nearer than (2,0); right, down right: (2,1) or (3,1); left (1,2): the GATE (1,1) is 1 from him,
        // (2,1) 2; a WAY less than that leads to the GATE in no other case
        due("how many", s.lead(0, 1, 0, 0), 1);
        due("left", s.lead(0, 1, 0, 1), 6);
        due("way 2 of one", s.lead(0, 1, 0, 2), -2);
        due("way 3 of one", s.lead(0, 1, 0, 3), -2);
        due("what 4", s.lead(0, 1, 0, 4), NONE);
        due("what -1", s.lead(0, 1, 0, -1), NONE);
        due("n 0", s.lead(0, 0, 0, 0), 0);
        due("n 0, a way", s.lead(0, 0, 0, 1), -2);
        due("n 4", s.lead(0, 4, 0, 0), NONE);
        due("n -1", s.lead(0, -1, 0, 0), NONE);
        due("m 13", s.lead(0, 1, 13, 0), NONE);
        due("m -1", s.lead(0, 1, -1, 0), NONE);
        due("m 12", s.lead(0, 1, 12, 0), 1);
        due("law 1", s.lead(1, 1, 0, 0), NONE);
        due("the HERALD stays", s.herald(0, 0), 2);
        due("no HERALD", on("row .;person 0 0 1 1", "stand").lead(0, 1, 0, 0), NONE);
        due("no PLAIN", withLaw("stand").lead(0, 1, 0, 0), NONE);
        SecondNearest t = on("row .;herald 0 0", "stand");
        due("no WAY can be gone: he stands", t.lead(0, 2, 0, 1), 8);
        due("and again", t.lead(0, 2, 0, 2), 8);
        SecondNearest u = on("row ...;herald 1 0", "stand");
        due("right, of all alike the first", u.lead(0, 3, 0, 1), 2);
        due("then left: right is beyond", u.lead(0, 3, 0, 2), 6);
        due("then right", u.lead(0, 3, 0, 3), 2);
        due("one less", u.lead(0, 2, 0, 3), -2);
    }

    private static void p21() {
        SecondNearest t = on("row ....G.;herald 0 0;person 3 0 1 1;herald 5 0", "follow 2", "follow 1");
        // follow 1: HERALD 1 (4) is nearer than HERALD 0 (9): OUT behind one STEP; the first FREE CELL is (1,0)
        due("the first", t.wall(1, 1), 1);
        // follow 2: HERALD 0; with a WALL he SEES one alone and stands
        due("follow 2", t.wall(0, 9), -2);
        SecondNearest u = on("row ....G.;herald 0 0;person 2 0 1 1;herald 5 0", "follow 1 if seen=1", "follow 1");
        due("one hidden by (1,0)", u.wall(0, 2), 1);
        due("two STEPS are needed", u.wall(0, 1), -2);
        due("nothing changes", u.cell(1, 0, 0), 0);
        due("nor what is SEEN", u.sees(0), 2);
        // he follows HERALD 0 (9), unless (1,1) hides him; then HERALD 1 (16), over the GATE at the third STEP
        SecondNearest x = on("row .#######;row ......G.;herald 0 1;person 3 1 1 1;herald 7 1", "follow 1");
        due("the second CELL tried", x.wall(0, 3), 12 + 1);
        due("in less STEPS none", x.wall(0, 2), -2);
        SecondNearest v = on("row G.#;row ...;herald 0 1", "stand");
        due("nobody there: the first FREE CELL, no GATE", v.wall(0, 0), 1);
        due("STEPS to a GATE stay", v.cell(2, 1, 2), 2);
        due("n 60", v.wall(0, 60), 1);
        due("n 61", v.wall(0, 61), NONE);
        due("n -1", v.wall(0, -1), NONE);
        due("law 1", v.wall(1, 0), NONE);
        due("no PLAIN", withLaw("stand").wall(0, 0), NONE);
        due("no FREE CELL", on("row G#;herald 0 0", "stand").wall(0, 0), -2);
        // the WORD gate is that of the PLAIN with the WALL: (1,0) closed makes the way longer than 2
        SecondNearest w = on("row .G;row .#;herald 0 1;person 0 0 1 1", "stand if gate<99;follow 1");
        due("no WALL hides a GATE beside", w.wall(0, 5), -2);
    }

    private static void p22() {
        SecondNearest s = on("row ...;row ...;person 1 0 1 1", "stand", "follow 1");
        due("he stood", s.ago(0), 1);
        SecondNearest t = on("row ......;person 2 0 1 1;herald 0 0", "follow 1");
        due("from (3,0) alone", t.ago(0), 1);
        due("nothing changes", t.person(0, 0) + t.count(4), 2);
        SecondNearest u = on("row ......;person 1 0 1 1;herald 0 0", "follow 1");
        due("from (2,0), or he stood", u.ago(0), 2);
        SecondNearest v = on("row .G....;person 2 0 1 1;herald 5 0", "follow 1");
        due("off the GATE", v.ago(0), 1);
        SecondNearest w = on("row G..;person 0 0 1 1", "stand");
        due("nobody stays on a GATE", w.ago(0), 0);
        w.tick(0, 1);
        due("nobody there: one", w.ago(0), 1);
        due("four PEOPLE", on("row ....;person 0 0 1 1;person 1 0 1 1;person 2 0 1 1;person 3 0 1 1", "stand").ago(0), -2);
        due("three", on("row ....;person 0 0 1 1;person 1 0 1 1;person 2 0 1 1", "stand").ago(0), 1);
        String six = "row ......" + times(";row ......", 5);
        due("36 CELLS", on(six + ";person 0 0 1 1", "stand").ago(0), 1);
        due("42 CELLS", on(six + ";row ......;person 0 0 1 1", "stand").ago(0), -2);
        due("law 1", t.ago(1), NONE);
        due("law -1", t.ago(-1), NONE);
        due("no PLAIN", withLaw("stand").ago(0), NONE);
        // two who see their own HERALD alone: each came from above
        SecondNearest y = on("row .#.;row .#.;row .#.;row .#.;person 0 1 1 1;person 2 1 1 1;herald 0 3;herald 2 3", "follow 1");
        due("two from above", y.ago(0), 1);
        // y of the three now 8, 6, 4; before 7, 5, 3 or 8, 7, 3 or 9, 5, 3 or 9, 7, 3
        SecondNearest z = on("row ." + times(";row .", 11) + ";person 0 8 1 0;person 0 6 1 1;person 0 4 1 2;herald 0 11",
            "follow 3 if sort=0;follow 2 if sort=1;follow 1");
        due("three of one column", z.ago(0), 4);
        SecondNearest x = on("row G....;person 0 0 1 1;person 1 0 1 1;person 2 0 1 1;person 3 0 1 1", "stand");
        x.tick(0, 1);
        due("of four one is OUT", x.ago(0), 1);
    }

    private static void p23() {
        SecondNearest s = on("row ...;person 0 0 1 1;person 1 0 1 1;herald 2 0", "stand");
        due("one", s.spoor(1, 0, 1), 1);
        due("the same", s.spoor(200, 0, 1), 2);
        due("a HERALD", s.spoor(3, 1, 12), 3);
        due("step 0", s.spoor(0, 0, 1), -2);
        due("step 201", s.spoor(201, 0, 1), -2);
        due("person 2", s.spoor(1, 2, 1), -2);
        due("person -2", s.spoor(1, -2, 1), -2);
        due("person 12", s.spoor(1, 12, 1), -2);
        due("other 2", s.spoor(1, 0, 2), -2);
        due("other 13", s.spoor(1, 0, 13), -2);
        due("other -1", s.spoor(1, 0, -1), -2);
        due("himself", s.spoor(1, 1, 1), -2);
        due("SPOORS", s.count(6), 3);
        for (int i = 4; i <= 40; i++) {
            due("SPOOR " + i, s.spoor(i, 1, 0), i);
        }
        due("a 41st", s.spoor(1, 0, 1), -2);
        due("SPOORS", s.count(6), 40);
        due("none then", s.spoor(0, -1, 0), 0);
        due("SPOORS", s.count(6), 0);
        due("anew", s.spoor(1, 0, 1), 1);
        due("no PLAIN", new SecondNearest().spoor(1, 0, 1), -2);
        due("none without a PLAIN", new SecondNearest().spoor(1, -1, 1), 0);
    }

    private static void p24() {
        SecondNearest s = on("row ...G.;person 0 0 1 1;herald 4 0;person 1 0 1 1", "follow 1 if x=1;follow 2", "stand");
        // STEP 1: 0 follows the HERALD (barred), 1 follows 0; STEP 2 the same
        due("none told", s.judged(0), -2);
        s.spoor(2, 0, 12);
        s.spoor(1, 1, 0);
        due("all so", s.judged(0), -2);
        s.spoor(9, 1, 12);
        s.spoor(1, 0, 1);
        due("the first as told", s.judged(0), 2);
        due("by standing none is", s.judged(1), 0);
        due("law 2", s.judged(2), NONE);
        due("law -1", s.judged(-1), NONE);
        due("no PLAIN", withLaw("stand").judged(0), NONE);
        due("nothing changes", s.count(4), 0);
        SecondNearest t = on("row ..G.;person 0 0 1 1;herald 3 0", "follow 1");
        t.spoor(2, 0, 12);
        due("STEP 2: he follows and comes OUT", t.judged(0), -2);
        t.spoor(3, 0, 12);
        due("STEP 3: he is OUT", t.judged(0), 1);
        t.tick(0, 1);
        due("STEPS are counted from now on", t.judged(0), 0);
        SecondNearest u = on("row ...;person 0 0 1 1;herald 2 0", "follow 1", "stand if x=1");
        u.spoor(200, 0, 12);
        due("STEP 200: so", u.judged(0), -2);
        due("STEP 200: not so", u.judged(1), 0);
    }

    private static void p25() {
        SecondNearest s = on("row .G..;person 0 0 1 1;person 2 0 1 1;herald 3 0", "stand", "follow 2", "follow 2;stand", "follow 1");
        // follow 2: 0 follows the HERALD to the GATE: OUT behind one; 1 follows then the HERALD alone: no second: stands.
        // follow 1: 0 follows 1 (4), to the GATE: OUT; 1 follows the HERALD (1): stands.
        due("one STEP", s.bestLaw(1), 1);
        due("none", s.bestLaw(0), 0);
        due("n 201", s.bestLaw(201), NONE);
        due("n -1", s.bestLaw(-1), NONE);
        due("n 200", s.bestLaw(200), 1);
        due("nothing changes", s.count(4), 0);
        due("no LAWS", on("row .").bestLaw(1), -2);
        due("no LAWS, n 201", on("row .").bestLaw(201), NONE);
        due("no PLAIN", withLaw("stand").bestLaw(1), NONE);
    }

    private static void p26() {
        SecondNearest s = on("row .G.;row G#.;person 0 0 1 1;person 2 1 1 1;herald 2 0", "follow 1", "stand");
        s.spoor(1, 0, 1);
        s.tick(0, 1);
        s.feed(0, 0, 0, 0, 0);
        // 0 follows the HERALD (4), 1 being hidden or not: at (2,1) distance 5; he goes to (1,0): OUT
        int[] want = {3, 2, 2, 1, 1, 1, 1, 2, 20, 2};
        for (int what = 0; what <= 9; what++) {
            due("count(" + what + ")", s.count(what), want[what]);
        }
        due("what 10", s.count(10), NONE);
        due("what -1", s.count(-1), NONE);
    }

    private static void p27and28() {
        SecondNearest s = on("row ..G.;row .#..;person 0 0 1 1;herald 3 0", "follow 1");
        due("image(-1)", s.image(-1), NONE);
        due("image(4)", s.image(4), NONE);
        due("back never made", s.back(1), NONE);
        s.spoor(1, 0, 12);
        s.tick(0, 1);
        due("image(0)", s.image(0), 1);
        s.tick(0, 1);
        s.goes(0, 4);
        s.spoor(2, 0, 12);
        due("image(3)", s.image(3), 2);
        plain(s, "row .#.;person 0 0 5 5;person 2 0 6 6");
        law(s, "stand");
        s.feed(0, 0, 0, 0, 0);
        due("another PLAIN", s.sees(0), 0);
        due("back(-1)", s.back(-1), NONE);
        due("back(4)", s.back(4), NONE);
        due("back(2)", s.back(2), NONE);
        due("nothing happened", s.count(2), 2);
        due("back(0)", s.back(0), 1);
        due("PEOPLE", s.count(2), 1);
        due("STEPS", s.count(4), 1);
        due("SPOORS", s.count(6), 1);
        due("LAWS stay", s.count(7), 2);
        due("the TAPE stays", s.count(8), 20);
        due("x", s.person(0, 0), 1);
        due("age", s.person(0, 2), 1);
        due("not OUT", s.person(0, 4), NONE);
        due("he SEES again", s.sees(0), 1);
        due("STEPS to a GATE", s.cell(0, 1, 2), 2);
        due("the HERALD", s.herald(0, 1), 0);
        due("and again", s.tick(0, 1), 2);
        due("back(3)", s.back(3), 2);
        due("OUT at 2", s.person(0, 4), 2);
        due("OUT", s.count(5), 1);
        due("SPOORS", s.count(6), 2);
        due("the HERALD below", s.herald(0, 1), 1);
        due("back(0) once more", s.back(0), 1);
        due("image in its place", s.image(3), 1);
        due("back(3)", s.back(3), 1);
        SecondNearest u = on("row ...;person 0 0 1 1;person 1 0 1 1;herald 2 0", "follow 1", "follow 2");
        u.spoor(2, 0, 1);
        u.spoor(1, 1, 0);
        u.image(0);
        u.spoor(0, NONE, 0);
        u.spoor(1, 1, 12);
        u.spoor(3, 0, 12);
        due("other SPOORS", u.judged(1), -2);
        due("are not so by LAW 0", u.judged(0), 0);
        u.back(0);
        due("those of the IMAGE", u.judged(0), -2);
        due("are not so by LAW 1", u.judged(1), 0);
        SecondNearest t = new SecondNearest();
        due("an IMAGE without a PLAIN", t.image(2), 0);
        plain(t, "row .G.;herald 0 0");
        due("back to none", t.back(2), 0);
        due("columns", t.count(0), 0);
        due("GATES", t.count(9), 0);
        due("no CELL", t.cell(0, 0, 0), NONE);
    }

    /** No call throws, whatever its arguments. */
    private static void wildArguments() {
        int[] wild = {Integer.MIN_VALUE, -3, -2, -1, 0, 1, 2, 3, 4, 11, 12, 13, 14, 60, 200, 201, Integer.MAX_VALUE};
        String plain = "row ..G;row .#.;person 0 0 1 1;person 2 1 2 2;herald 0 1";
        for (int empty = 0; empty < 2; empty++) {
            for (int a : wild) {
                for (int b : wild) {
                    SecondNearest s = empty == 0 ? on(plain, "follow 1", "follow 2") : new SecondNearest();
                    s.end(a);
                    s.person(a, b);
                    s.herald(a, b);
                    s.sees(a);
                    s.seen(a, b);
                    s.goes(a, b);
                    s.tick(a, b);
                    s.follows(a, b);
                    s.round(a, b);
                    s.files(a, b);
                    s.wall(a, b);
                    s.ago(a);
                    s.judged(a);
                    s.bestLaw(a);
                    s.count(a);
                    s.image(a);
                    s.back(a);
                    for (int c : wild) {
                        s.cell(a, b, c);
                        s.ahead(a, b, c);
                        s.without(a, b, c);
                        s.leader(a, b, c);
                        s.post(a, b, c);
                        s.lead(a, b, c, 0);
                        s.lead(0, a, b, c);
                        s.spoor(a, b, c);
                    }
                    checks++;
                }
            }
        }
    }

    public static void main(String[] args) {
        run("promise 1", PromiseTest::p1);
        run("promise 2", PromiseTest::p2);
        run("promise 3", PromiseTest::p3);
        run("promise 4", PromiseTest::p4);
        run("promise 5", PromiseTest::p5);
        run("promise 6", PromiseTest::p6);
        run("promise 7", PromiseTest::p7);
        run("promise 8", PromiseTest::p8);
        run("promise 9", PromiseTest::p9);
        run("promise 10", PromiseTest::p10);
        run("promise 11", PromiseTest::p11);
        run("promise 12", PromiseTest::p12);
        run("promise 13", PromiseTest::p13);
        run("promise 14", PromiseTest::p14);
        run("promise 15", PromiseTest::p15);
        run("promise 16", PromiseTest::p16);
        run("promise 17", PromiseTest::p17);
        run("promise 18", PromiseTest::p18);
        run("promise 19", PromiseTest::p19);
        run("promise 20", PromiseTest::p20);
        run("promise 21", PromiseTest::p21);
        run("promise 22", PromiseTest::p22);
        run("promise 23", PromiseTest::p23);
        run("promise 24", PromiseTest::p24);
        run("promise 25", PromiseTest::p25);
        run("promise 26", PromiseTest::p26);
        run("promises 27 and 28", PromiseTest::p27and28);
        run("any arguments", PromiseTest::wildArguments);
        report();
    }
}
