/** The sentences on what would be, on SPOORS and IMAGES that name a boundary: promises 14 to 28 and III. of the terms. */
final class PlanBoundaries extends Check {
    /**
     * By LAW 1 PERSON 7 comes OUT at STEP 673, PERSON 6 at 681, and then all rest: found by a search, told alike by the model. LAW 0: all
     * stand.
     */
    private static final String LATE = "row G....;row .....;row .....;row .....;person 4 3 8 5;person 0 0 1 8;person 4 2 3 2;person 1 2 7 8"
        + ";person 1 3 3 0;person 2 1 3 1;person 4 1 8 1;person 2 3 6 7;herald 4 0;herald 0 3";
    /**
     * One way between PONDS, over which all is SEEN: by LAW 0 PERSON 0 goes it after the HERALD at the right and the one at the left by
     * turns, without a rest, and is OUT at STEP 60; nobody could go there sooner. HERALD 0 can't go anywhere.
     */
    private static final String WALK = "row ............;row ~~~~~~~~~~~.;row ~..........~;row .~~~~~~~~~~~;row ~..........~"
        + ";row ~~~~~~~~~~~.;row ~..........~;row .~~~~~~~~~~~;row ~..........~;row ~~~~~~~~~~~.;row ~~~~~~G....~;row .~~~~~~~~~~."
        + ";person 0 0 1 1;herald 0 11;herald 11 11";
    private static final String WALK_LAW = "follow 1 if y%2=1;follow 1 if y%4=0 and x>5 or y%4=2 and x<6;follow 2";

    /** PEOPLE 0 to 10 stand on GATES; PERSON 11, who SEES the HERALD alone, goes after him and is OUT at STEP 10. */
    private static final String ELEVEN = "row GGGGGGGGGGG.;row ############;row ..........G.;person 0 0 1 0;person 1 0 1 0;person 2 0 1 0"
        + ";person 3 0 1 0;person 4 0 1 0;person 5 0 1 0;person 6 0 1 0;person 7 0 1 0;person 8 0 1 0;person 9 0 1 0;person 10 0 1 0"
        + ";person 0 2 1 1;herald 11 2";
    private static final String ELEVEN_LAW = "follow 1 if sort=1";

    private PlanBoundaries() { }

    private static void walked(SecondNearest s, int law, int steps) {
        for (int left = steps; left > 0; left -= 200) {
            s.tick(law, Math.min(left, 200));
        }
        due("STEPS done", s.count(4), steps);
    }

    static SecondNearest late(int steps) {
        SecondNearest s = on(LATE, "stand", "follow 8");
        walked(s, 1, steps);
        return s;
    }

    private static SecondNearest walk(int steps) {
        SecondNearest s = on(WALK, WALK_LAW, "stand");
        walked(s, 0, steps);
        return s;
    }

    private static void nothingChanges() {
        says("(By a LAW; nothing changes.)");
        SecondNearest s = busy();
        s.goes(0, 4);
        String before = state(s);
        s.follows(0, 1);
        s.ahead(0, 9, 0);
        s.ahead(0, 9, 3);
        s.round(0, 0);
        s.files(0, 0);
        s.files(0, 2);
        s.without(0, 12, 9);
        s.leader(0, 9, 0);
        s.post(0, 9, 0);
        s.lead(0, 3, 3, 1);
        s.wall(0, 9);
        s.ago(0);
        s.judged(0);
        s.bestLaw(9);
        due("all behind these calls", state(s), before);
    }

    // ---- promises 14 and 15

    private static void aheadToTheLimit() {
        says("AHEAD of n STEPS (0 to 200): how many are OUT then, how many went somewhere in the last one (0 if n is 0)"
            + ", the STEP (1 the first) at which a PERSON is OUT.");
        SecondNearest s = late(473);
        due("OUT behind 200", s.ahead(1, 200, 0), 1);
        due("OUT behind 199", s.ahead(1, 199, 0), 0);
        due("at the 200th STEP", s.ahead(1, 200, 2 + 7), 200);
        due("not in 199", s.ahead(1, 199, 2 + 7), -2);
        for (int n : new int[] {-1, 201, WILD[0], WILD[1]}) {
            due("n " + n, s.ahead(1, n, 0), NONE);
            due("n " + n, s.ahead(1, n, 1), NONE);
            due("n " + n, s.ahead(1, n, 2), NONE);
        }
        SecondNearest early = late(472);
        due("OUT behind 200, a STEP sooner", early.ahead(1, 200, 0), 0);
        due("not in these", early.ahead(1, 200, 2 + 7), -2);
        SecondNearest t = on("row ..G.;person 0 0 1 1;person 1 0 1 1;herald 3 0", "follow 2 if seen=2;follow 1", "stand");
        // 1 is OUT at STEP 1; 0, who was barred, goes at 2 and is OUT at 3
        int[] out = {0, 1, 1, 2, 2};
        int[] went = {0, 1, 1, 1, 0};
        for (int n = 0; n <= 4; n++) {
            due("OUT behind " + n, t.ahead(0, n, 0), out[n]);
            due("went in the last of " + n, t.ahead(0, n, 1), went[n]);
            due("0 OUT within " + n, t.ahead(0, n, 2), n < 3 ? -2 : 3);
            due("1 OUT within " + n, t.ahead(0, n, 3), n < 1 ? -2 : 1);
        }
        due("went in the last of 1", t.ahead(0, 1, 1), 1);
        due("and then in none", t.ahead(0, 0, 1), 0);
        due("by standing none went", t.ahead(1, 200, 1), 0);
    }

    private static void aheadAnswers() {
        says("AHEAD what 0: OUT, 1: how many went, 2 and a PERSON: the STEP (from now on) at which he comes OUT"
            + " (0: he is, -2: not in these). NONE without these.");
        SecondNearest t = on("row ..G.;person 0 0 1 1;person 1 0 1 1;herald 3 0", "follow 2 if seen=2;follow 1", "stand");
        t.tick(0, 1);
        due("1 is OUT", t.ahead(0, 0, 3), 0);
        due("and stays so", t.ahead(0, 200, 3), 0);
        due("0 from now on", t.ahead(0, 200, 2), 2);
        due("0 not in one", t.ahead(0, 1, 2), -2);
        for (int what : new int[] {-1, 4, 13, 14, WILD[0], WILD[1]}) {
            due("what " + what, t.ahead(0, 1, what), NONE);
        }
        for (int law : new int[] {-1, 2, 6, WILD[0], WILD[1]}) {
            due("LAW " + law, t.ahead(law, 1, 0), NONE);
        }
        due("no PLAIN", withLaw("stand").ahead(0, 0, 0), NONE);
        SecondNearest u = on("row ...........G" + peopleOfARow(12), "stand");
        due("PERSON 11", u.ahead(0, 1, 13), 1);
        due("PERSON 12", u.ahead(0, 1, 14), NONE);
        due("PERSON 11 at STEP 10", on(ELEVEN, ELEVEN_LAW).ahead(0, 10, 13), 10);
        due("PERSON 11 not in 9", on(ELEVEN, ELEVEN_LAW).ahead(0, 9, 13), -2);
        SecondNearest none = on("row .;herald 0 0", "stand");
        due("no PEOPLE: how many went", none.ahead(0, 1, 1), 0);
        due("no PEOPLE: PERSON 0", none.ahead(0, 1, 2), NONE);
    }

    private static void roundsToTheLimit() {
        says("ROUND: the fewest STEPS behind which a SITUATION (where PEOPLE stand, who is OUT) comes again later within 400 STEPS"
            + ": how many these are (the LEAD-IN), how many STEPS until it comes again (1: all rest).");
        SecondNearest s = late(281);
        due("again at 401: LEAD-IN", s.round(1, 0), -2);
        due("again at 401", s.round(1, 1), -2);
        s.tick(1, 1);
        due("again at 400: LEAD-IN", s.round(1, 0), 399);
        due("again at 400: all rest", s.round(1, 1), 1);
        due("by standing: LEAD-IN", s.round(0, 0), 0);
        due("by standing: all rest", s.round(0, 1), 1);
        SecondNearest t = on("row .....;herald 0 0;herald 4 0;person 2 0 1 1", "follow 1 if x=2;follow 2",
            "follow 1 if x=1;follow 2 if x=2");
        // x 2: HERALD 0, to 1; x 1: HERALD 1 is the second, to 2
        due("to and fro: LEAD-IN", t.round(0, 0), 0);
        due("to and fro", t.round(0, 1), 2);
        // x 2: HERALD 1, to 3; x 3: no CLAUSE
        due("one STEP: LEAD-IN", t.round(1, 0), 1);
        due("then all rest", t.round(1, 1), 1);
        SecondNearest out = on("row G;person 0 0 1 1", "stand");
        due("OUT is another SITUATION: LEAD-IN", out.round(0, 0), 1);
        due("then all rest", out.round(0, 1), 1);
        due("PERSON 11 goes for 10 STEPS: LEAD-IN", on(ELEVEN, ELEVEN_LAW).round(0, 0), 10);
        due("then all rest", on(ELEVEN, ELEVEN_LAW).round(0, 1), 1);
        // one goes from (1,0) to (2,0), the other one from (7,10) through the GATE: another SITUATION, then all rest
        String two = "row ............" + times(";row ............", 3) + ";row ############;row ............;row ############"
            + times(";row ............", 3) + ";row ........G...;row ............";
        String both = ";person 1 0 0 1;person 7 10 0 1;herald 3 0;herald 9 10";
        due("PEOPLE 0 and 1: LEAD-IN", on(two + both, ELEVEN_LAW).round(0, 0), 1);
        String eight = ";person 0 5 0 0;person 1 5 0 0;person 2 5 0 0;person 3 5 0 0;person 4 5 0 0;person 5 5 0 0;person 6 5 0 0"
            + ";person 7 5 0 0";
        due("PEOPLE 8 and 9: LEAD-IN", on(two + eight + both, ELEVEN_LAW).round(0, 0), 1);
        due("nobody: LEAD-IN", on("row .", "stand").round(0, 0), 0);
        due("nobody", on("row .", "stand").round(0, 1), 1);
    }

    private static void roundAnswers() {
        says("ROUND what 0: LEAD-IN, 1: STEPS till it comes again; -2: not within 400; NONE without these.");
        SecondNearest t = on("row .....;herald 0 0;herald 4 0;person 2 0 1 1", "follow 1 if x=2;follow 2",
            "follow 1 if x=1;follow 2 if x=2");
        for (int what : new int[] {-1, 2, WILD[0], WILD[1]}) {
            due("what " + what, t.round(0, what), NONE);
        }
        for (int law : new int[] {-1, 2, 6, WILD[0], WILD[1]}) {
            due("LAW " + law, t.round(law, 0), NONE);
        }
        due("no PLAIN", withLaw("stand").round(0, 0), NONE);
        due("never within 400", late(0).round(1, 0), -2);
    }

    // ---- promises 16 to 18

    /** By LAWS 0 to 2 each follows the older one at his right; the last one nobody, the one behind him, the HERALD. */
    private static SecondNearest twelveInARow() {
        return on("row ............;row ............" + peopleOfARow(12) + ";herald 11 1", "follow 1 if x<11", "follow 1",
            "follow 2 if x=11;follow 1", "stand");
    }

    private static void longestFiles() {
        says("FILES: the most PEOPLE one behind the other (each FOLLOWS the next one, all unlike; a HERALD, or nobody, at the head"
            + " is not counted).");
        SecondNearest s = twelveInARow();
        due("twelve, nobody at the head", s.files(0, 0), 12);
        due("twelve, the last two a RING", s.files(1, 0), 12);
        due("twelve, a HERALD at the head", s.files(2, 0), 12);
        due("who follows nobody is one", s.files(3, 0), 1);
        SecondNearest gate = on("row G;person 0 0 1 1", "stand");
        due("one there", gate.files(0, 0), 1);
        gate.tick(0, 1);
        due("OUT: nobody there", gate.files(0, 0), 0);
        StringBuilder backwards = new StringBuilder("row ............");
        for (int i = 0; i < 12; i++) {
            backwards.append(";person ").append(11 - i).append(" 0 ").append(11 - i).append(" 0");
        }
        due("twelve, PERSON 11 the last", on(backwards.toString(), "follow 1 if x<11").files(0, 0), 12);
        due("no PEOPLE", on("row ..;herald 0 0", "follow 1").files(0, 0), 0);
        due("a HERALD is none", on("row ..;herald 0 0;person 1 0 1 1", "follow 1").files(0, 0), 1);
    }

    private static void rings() {
        says("RINGS: PEOPLE each of whom FOLLOWS the next one, the last the first: how many of these, PEOPLE in them (as bits).");
        SecondNearest s = twelveInARow();
        due("no RING", s.files(0, 1), 0);
        due("none in it", s.files(0, 2), 0);
        due("a RING of two", s.files(1, 1), 1);
        due("the two in it", s.files(1, 2), 1 << 10 | 1 << 11);
        due("a HERALD ends it", s.files(2, 1), 0);
        SecondNearest six = on("row ..#..#..#..#;row ############;row ..#..#..#..#;person 0 0 1 1;person 1 0 1 1;person 3 0 1 1"
            + ";person 4 0 1 1;person 6 0 1 1;person 7 0 1 1;person 9 0 1 1;person 10 0 1 1;person 0 2 1 1;person 1 2 1 1"
            + ";person 3 2 1 1;person 4 2 1 1",
            "follow 1");
        due("six RINGS", six.files(0, 1), 6);
        due("all in them", six.files(0, 2), 4095);
        due("each of two", six.files(0, 0), 2);
        // round two rows each follows the one who is a year older, and the oldest the youngest; who is across is at 1, too
        SecondNearest ring = on("row ......;row ......" + peopleOfARow(6) + ";person 5 1 6 0;person 4 1 7 0;person 3 1 8 0;person 2 1 9 0"
            + ";person 1 1 10 0;person 0 1 11 0", "follow 2 if y=0 and x<5 or y=1 and x=0;follow 1");
        due("one RING of twelve", ring.files(0, 1), 1);
        due("all in it", ring.files(0, 2), 4095);
        due("as a FILE", ring.files(0, 0), 12);
        SecondNearest three = on("row ....;person 0 0 1 0;person 1 0 1 1;person 3 0 1 1", "follow 1 if sort=0;follow 2");
        due("one RING of three", three.files(0, 1), 1);
        due("all in it", three.files(0, 2), 7);
        due("as a FILE", three.files(0, 0), 3);
    }

    private static void filesAnswers() {
        says("What 0: FILES (the longest), 1: RINGS, 2: PEOPLE in RINGS, as bits. NONE without these.");
        SecondNearest s = twelveInARow();
        for (int what : new int[] {-1, 3, WILD[0], WILD[1]}) {
            due("what " + what, s.files(0, what), NONE);
        }
        for (int law : new int[] {-1, 4, 6, WILD[0], WILD[1]}) {
            due("LAW " + law, s.files(law, 0), NONE);
        }
        due("no PLAIN", withLaw("stand").files(0, 0), NONE);
    }

    private static void askedNow() {
        says("asked all as they stand now, whether he could go or not");
        SecondNearest barred = on("row ..;person 0 0 1 1;person 1 0 1 1", "follow 1");
        due("they can't go", barred.ahead(0, 1, 1), 0);
        due("a RING all the same", barred.files(0, 2), 3);
        // at his turn 1 would follow 0, who is nearer then; now he follows the HERALD
        SecondNearest now = on("row ......;person 0 0 1 1;person 3 0 1 1;herald 5 0", "follow 1");
        due("no RING now", now.files(0, 1), 0);
        due("a FILE of two", now.files(0, 0), 2);
    }

    /** By LAW 0 PERSON 0 has PERSON 1 and HERALD 1 at 4, and PEOPLE are ahead: he goes to x 2; without 1 he goes to the GATE. */
    private static SecondNearest drawnEitherWay() {
        return on("row ....G.;herald 0 0;person 3 0 1 1;herald 5 0;person 1 0 1 1", "follow 1 if sort=1 and x>1", "stand");
    }

    private static void takenAway() {
        says("WITHOUT a PERSON or HERALD (12 and his number): how many others (PEOPLE) are somewhere else (or OUT, or not)"
            + " behind n STEPS than with him.");
        SecondNearest s = drawnEitherWay();
        due("with all", s.follows(0, 0), 1);
        due("without 1 he is OUT, not at 2", s.without(0, 1, 1), 1);
        due("without 0 nobody else is", s.without(0, 0, 1), 0);
        due("without HERALD 0 all is alike", s.without(0, 12, 1), 0);
        due("without HERALD 1 too", s.without(0, 13, 1), 0);
        due("behind none", s.without(0, 1, 0), 0);
        due("by standing", s.without(1, 1, 200), 0);
    }

    private static void withoutAnswers() {
        says("WITHOUT (n 0 to 200); NONE without these (one who is OUT, too).");
        SecondNearest s = drawnEitherWay();
        due("n 200", s.without(0, 1, 200), 1);
        for (int n : new int[] {-1, 201, WILD[0], WILD[1]}) {
            due("n " + n, s.without(0, 1, n), NONE);
        }
        for (int who : new int[] {-1, 2, 11, 14, WILD[0], WILD[1]}) {
            due("who " + who, s.without(0, who, 1), NONE);
        }
        for (int law : new int[] {-1, 2, 6, WILD[0], WILD[1]}) {
            due("LAW " + law, s.without(law, 0, 1), NONE);
        }
        due("no PLAIN", withLaw("stand").without(0, 0, 1), NONE);
        SecondNearest one = on("row .G;person 0 0 1 1;person 1 0 1 1", "stand");
        due("who is there", one.without(0, 1, 1), 0);
        one.tick(0, 1);
        due("who is OUT", one.without(0, 1, 1), NONE);
        due("no HERALD 0", one.without(0, 12, 1), NONE);
        SecondNearest gone = on("row ..G.;person 0 0 1 1;herald 3 0", "follow 1");
        due("OUT, or not: behind 2", gone.without(0, 12, 2), 1);
        due("somewhere else: behind 1", gone.without(0, 12, 1), 1);
        due("PERSON 11 is one of the others", on(ELEVEN, ELEVEN_LAW).without(0, 12, 1), 1);
        // told alike by the model
        due("behind 199", late(0).without(1, 3, 199), 5);
        due("behind 200", late(0).without(1, 3, 200), 7);
    }

    private static void leaders() {
        says("LEADER: the PERSON or HERALD without whom most are (HERALDS behind PEOPLE, of several the least).");
        SecondNearest s = drawnEitherWay();
        due("PERSON 1", s.leader(0, 1, 0), 1);
        due("one", s.leader(0, 1, 1), 1);
        due("of none the least", s.leader(1, 1, 0), 0);
        due("none", s.leader(1, 1, 1), 0);
        SecondNearest zero = on("row ....G.;herald 0 0;person 1 0 1 1;person 3 0 1 1;herald 5 0", "follow 1 if sort=1 and x>1");
        due("PERSON 0", zero.leader(0, 1, 0), 0);
        due("one", zero.leader(0, 1, 1), 1);
        // each of the two HERALDS draws one of two who SEE no other one
        SecondNearest t = on("row ...#...;person 0 0 1 1;herald 2 0;herald 4 0;person 6 0 1 1", "follow 1");
        due("without either HERALD one: the least", t.leader(0, 1, 0), 12);
        due("one", t.leader(0, 1, 1), 1);
        SecondNearest second = on("row ...#..;herald 4 0;person 0 0 1 1;herald 2 0", "follow 1");
        due("HERALD 1", second.leader(0, 1, 0), 13);
        // 0 goes only if he SEES both: without either he is somewhere else
        SecondNearest u = on("row .....;herald 4 0;person 0 0 1 1;person 2 0 1 2", "follow 2 if seen=2 and sort=1");
        due("without the HERALD", u.without(0, 12, 1), 1);
        due("HERALDS behind PEOPLE", u.leader(0, 1, 0), 1);
        SecondNearest gate = on("row G..;person 0 0 1 1;herald 1 0;person 2 0 1 1", "stand");
        gate.tick(0, 1);
        due("the least who is there", gate.leader(0, 0, 0), 1);
    }

    private static void leaderAnswers() {
        says("LEADER what 0: who, 1: how many; -2: there is nobody; NONE without these.");
        SecondNearest s = drawnEitherWay();
        SecondNearest nobody = on("row G;person 0 0 1 1", "stand");
        due("somebody: who", nobody.leader(0, 1, 0), 0);
        due("somebody: how many", nobody.leader(0, 1, 1), 0);
        nobody.tick(0, 1);
        due("nobody: who", nobody.leader(0, 1, 0), -2);
        due("nobody: how many", nobody.leader(0, 1, 1), -2);
        due("no PEOPLE, no HERALDS", on("row .", "stand").leader(0, 1, 0), -2);
        due("a HERALD alone", on("row .;herald 0 0", "stand").leader(0, 1, 0), 12);
        due("how many", on("row .;herald 0 0", "stand").leader(0, 1, 1), 0);
        due("n 0", s.leader(0, 0, 1), 0);
        due("n 200", s.leader(0, 200, 0), 1);
        // told alike by the model: without HERALD 0 or 1 all eight are somewhere else
        due("behind 199", late(0).leader(1, 199, 0), 13);
        due("behind 200", late(0).leader(1, 200, 0), 12);
        for (int n : new int[] {-1, 201, WILD[0], WILD[1]}) {
            due("n " + n, s.leader(0, n, 0), NONE);
        }
        for (int what : new int[] {-1, 2, WILD[0], WILD[1]}) {
            due("what " + what, s.leader(0, 1, what), NONE);
        }
        for (int law : new int[] {-1, 2, 6, WILD[0], WILD[1]}) {
            due("LAW " + law, s.leader(law, 1, 0), NONE);
        }
        due("no PLAIN", withLaw("stand").leader(0, 1, 0), NONE);
    }

    // ---- promises 19 to 22

    private static void posts() {
        says("POST: the FREE CELL for HERALD 0 to stand on (in place of where he is; that one, too), from which most are OUT behind n STEPS"
            + ", of several the first (rows from above, each from the left).");
        // he can be OUT from where he is alone: other CELLS bar the way or draw nobody along it
        SecondNearest s = walk(0);
        due("in 60: where he is", s.post(0, 60, 0), 12 * 11);
        due("in 60: one", s.post(0, 60, 1), 1);
        due("in 59: the first FREE CELL", s.post(0, 59, 0), 1);
        due("in 59: none", s.post(0, 59, 1), 0);
        due("the only CELL", on("row .;herald 0 0", "stand").post(0, 1, 0), 0);
        due("the last CELL", on("row ###;row ##.;herald 2 1", "stand").post(0, 1, 0), 12 + 2);
        due("a GATE is FREE", on("row #G.;herald 2 0", "stand").post(0, 1, 0), 1);
        due("where PEOPLE, HERALDS, WALLS, PONDS are not",
            on("row #~..;row ....;person 2 0 1 1;herald 3 1;herald 3 0", "stand").post(0, 1, 0), 12);
        SecondNearest t = on("row ..G.;person 0 0 1 1;herald 1 0", "follow 1");
        due("where he is he bars the way: beyond", t.post(0, 2, 0), 3);
        due("one is OUT from there", t.post(0, 2, 1), 1);
        // from (0,0) he is drawn away, from where he is through the GATE
        due("each from where all stand now", on("row ...G.;person 2 0 1 1;herald 4 0", "follow 1").post(0, 1, 0), 4);
        // one beside a GATE who stands: none is OUT from any CELL
        due("of several alike the first", on("row ...G;person 2 0 1 1;herald 1 0", "stand").post(0, 5, 0), 0);
        SecondNearest one = on("row G...G;person 0 0 1 1;person 3 0 1 1;herald 2 0", "stand");
        due("of several with one the first", one.post(0, 5, 0), 1);
        due("with one", one.post(0, 5, 1), 1);
        SecondNearest eleven = on(ELEVEN, ELEVEN_LAW);
        due("all twelve in 10", eleven.post(0, 10, 1), 12);
        due("beyond the last GATE", eleven.post(0, 10, 0), 12 * 2 + 11);
        due("eleven in 9", eleven.post(0, 9, 1), 11);
        due("from anywhere: the first", eleven.post(0, 9, 0), 11);
        SecondNearest corner = on("row .~~~~~~~~~~~" + times(";row ~~~~~~~~~~~~", 8) + ";row ~~~~~~~~~.~~;row ~~~~~~~~~~G~;row ~~~~~~~~~~~."
            + ";herald 0 0;person 9 9 1 1", "follow 1");
        due("the last CELL of all", corner.post(0, 1, 0), 143);
    }

    private static void postAnswers() {
        says("POST (n 0 to 60) what 0: 12 * y + x, 1: how many are OUT; NONE without these (no HERALD).");
        SecondNearest t = on("row ..G.;person 0 0 1 1;herald 1 0", "follow 1");
        due("n 0: the first", t.post(0, 0, 0), 1);
        due("n 0: none", t.post(0, 0, 1), 0);
        for (int n : new int[] {-1, 61, WILD[0], WILD[1]}) {
            due("n " + n, t.post(0, n, 0), NONE);
            due("n " + n, t.post(0, n, 1), NONE);
        }
        for (int what : new int[] {-1, 2, WILD[0], WILD[1]}) {
            due("what " + what, t.post(0, 1, what), NONE);
        }
        for (int law : new int[] {-1, 1, 6, WILD[0], WILD[1]}) {
            due("LAW " + law, t.post(law, 1, 0), NONE);
        }
        due("no HERALD", on("row ..G;person 0 0 1 1", "follow 1").post(0, 1, 0), NONE);
        due("no HERALD: how many", on("row ..G;person 0 0 1 1", "follow 1").post(0, 1, 1), NONE);
        due("no PLAIN", withLaw("stand").post(0, 1, 0), NONE);
        SecondNearest out = on("row G..;person 0 0 1 1;herald 2 0", "stand");
        out.tick(0, 1);
        due("who is OUT already counts", out.post(0, 0, 1), 1);
    }

    private static void leads() {
        says("LEAD of n STEPS (0 to 3): a WAY of HERALD 0 (8: he stands) ahead of each, by which most are OUT behind these and m STEPS more"
            + ", of several the first (by the first WAY, then the next). A WAY that can't be gone is none.");
        SecondNearest s = walk(45);
        due("3 and 12", s.lead(0, 3, 12, 0), 1);
        for (int i = 1; i <= 3; i++) {
            due("no WAY can be gone: he stands, " + i, s.lead(0, 3, 12, i), 8);
        }
        due("3 and 11", s.lead(0, 3, 11, 0), 0);
        due("2 and 12", s.lead(0, 2, 12, 0), 0);
        s.tick(0, 1);
        due("2 and 12, a STEP later", s.lead(0, 2, 12, 0), 1);
        due("3 and 11, a STEP later", s.lead(0, 3, 11, 0), 1);
        s.tick(0, 2);
        due("0 and 12", s.lead(0, 0, 12, 0), 1);
        due("0 and 11", s.lead(0, 0, 11, 0), 0);
        due("a STEP sooner: 3 and 12", walk(44).lead(0, 3, 12, 0), 0);
        due("a STEP sooner: 0 and 12", walk(47).lead(0, 0, 12, 0), 0);
        // of all alike the first that can be gone: right, right is beyond, so left, right
        SecondNearest t = on("row ...;herald 1 0", "stand");
        int[] ways = {2, 6, 2};
        for (int i = 1; i <= 3; i++) {
            due("WAY " + i, t.lead(0, 3, 0, i), ways[i - 1]);
        }
        // one beside a GATE who stands: none is OUT by any WAY
        SecondNearest alike = on("row .....G;person 4 0 1 1;herald 1 0", "stand");
        int[] first = {2, 2, 6};
        for (int i = 1; i <= 3; i++) {
            due("of several alike the first, WAY " + i, alike.lead(0, 3, 3, i), first[i - 1]);
        }
        // up he is hidden, left he draws him through the GATE
        SecondNearest hide = on("row #####.;row ...G..;person 0 1 1 1;herald 5 1", "follow 1");
        due("in 3 one is OUT", hide.lead(0, 1, 2, 0), 1);
        due("left", hide.lead(0, 1, 2, 1), 6);
        due("in 2 none is", hide.lead(0, 1, 1, 0), 0);
        due("up, the first", hide.lead(0, 1, 1, 1), 0);
        // he is drawn from (1,0) alone, where one course leads: up and right, up, up
        SecondNearest course = on("row ~.G.;row ~.~~;row ~.~~;row .~~~;person 3 0 1 1;herald 0 3", "follow 1 if near=4");
        int[] only = {1, 1, 0, 0};
        for (int i = 0; i <= 3; i++) {
            due("the only course, what " + i, course.lead(0, 3, 0, i), only[i]);
        }
        due("in 2 none", course.lead(0, 2, 0, 0), 0);
        // only by standing the HERALD draws him through the GATE
        SecondNearest u = on("row .G.;row #~.;person 0 0 1 1;herald 2 0", "follow 1 if near=4");
        due("down he is too far, so he stands", u.lead(0, 1, 0, 1), 8);
        due("one is OUT", u.lead(0, 1, 0, 0), 1);
        SecondNearest two = on("row ..#..;herald 3 0;herald 0 0", "stand");
        due("HERALD 0, not 1: right", two.lead(0, 1, 0, 1), 2);
    }

    private static void leadAnswers() {
        says("LEAD (n 0 to 3, m 0 to 12) what 0: how many are OUT, 1 to 3: his WAYS (-2: n is less). NONE without these (no HERALD).");
        SecondNearest t = on("row ...;herald 1 0", "stand");
        int[] ways = {2, 6, 2};
        for (int n = 0; n <= 3; n++) {
            due("OUT by " + n, t.lead(0, n, 0, 0), 0);
            for (int i = 1; i <= 3; i++) {
                due("WAY " + i + " of " + n, t.lead(0, n, 0, i), i > n ? -2 : ways[i - 1]);
            }
        }
        for (int n : new int[] {-1, 4, WILD[0], WILD[1]}) {
            due("n " + n, t.lead(0, n, 0, 0), NONE);
            due("n " + n, t.lead(0, n, 0, 3), NONE);
        }
        for (int m : new int[] {-1, 13, WILD[0], WILD[1]}) {
            due("m " + m, t.lead(0, 1, m, 0), NONE);
            due("m " + m, t.lead(0, 0, m, 1), NONE);
        }
        for (int what : new int[] {-1, 4, WILD[0], WILD[1]}) {
            due("what " + what, t.lead(0, 3, 0, what), NONE);
        }
        for (int law : new int[] {-1, 1, 6, WILD[0], WILD[1]}) {
            due("LAW " + law, t.lead(law, 1, 0, 0), NONE);
        }
        SecondNearest none = on("row ..;person 0 0 1 1", "stand");
        due("no HERALD", none.lead(0, 1, 0, 0), NONE);
        due("no HERALD, n is less", none.lead(0, 0, 0, 1), NONE);
        due("no PLAIN", withLaw("stand").lead(0, 1, 0, 0), NONE);
    }

    private static void walls() {
        says("WALL: the first FREE CELL (rows from above, each from the left; no GATE) which, were it a WALL, would let all be OUT"
            + " within n STEPS.");
        // the CELLS ahead of (11,0) are on his way
        SecondNearest s = walk(0);
        due("in 60", s.wall(0, 60), 11);
        due("in 59", s.wall(0, 59), -2);
        due("by standing", s.wall(1, 60), -2);
        due("all OUT: the first", on("row ...", "stand").wall(0, 0), 0);
        due("no GATE", on("row GG.", "stand").wall(0, 0), 2);
        due("not where one stands", on("row ..;herald 0 0", "stand").wall(0, 0), 1);
        due("no WALL, no POND", on("row #~;row #.", "stand").wall(0, 0), 12 + 1);
        SecondNearest two = on("row .G.;person 0 0 1 1;person 1 0 1 1", "stand");
        due("not all", two.wall(0, 60), -2);
        SecondNearest u = on("row ....G.;herald 0 0;person 2 0 1 1;herald 5 0", "follow 1 if seen=1");
        due("he SEES both", u.sees(0), 2);
        due("it hides HERALD 0", u.wall(0, 2), 1);
        due("he SEES both still", u.sees(0), 2);
        due("in one STEP less", u.wall(0, 1), -2);
        // he follows HERALD 0, unless (1,1) hides him; (0,0), tried before, does not
        SecondNearest second = on("row .#######;row ......G.;herald 0 1;person 3 1 1 1;herald 7 1", "follow 1");
        due("the second CELL tried", second.wall(0, 3), 12 + 1);
        due("in 2 none", second.wall(0, 2), -2);
        due("all twelve in 10", on(ELEVEN, ELEVEN_LAW).wall(0, 10), 11);
        due("not in 9", on(ELEVEN, ELEVEN_LAW).wall(0, 9), -2);
    }

    private static void wallAnswers() {
        says("WALL (n 0 to 60): 12 * y + x; -2: there is none; NONE without these.");
        SecondNearest v = on("row GG;row ..", "stand");
        due("n 0", v.wall(0, 0), 12);
        due("n 60", v.wall(0, 60), 12);
        for (int n : new int[] {-1, 61, WILD[0], WILD[1]}) {
            due("n " + n, v.wall(0, n), NONE);
        }
        for (int law : new int[] {-1, 1, 6, WILD[0], WILD[1]}) {
            due("LAW " + law, v.wall(law, 0), NONE);
        }
        due("no FREE CELL", on("row G#~;herald 0 0", "stand").wall(0, 0), -2);
        due("GATES alone", on("row GG", "stand").wall(0, 0), -2);
        due("the last CELL of all", on("row ############" + times(";row ############", 10) + ";row ###########.", "stand").wall(0, 0), 143);
        due("no PLAIN", withLaw("stand").wall(0, 0), NONE);
        SecondNearest gate = on("row G..;person 0 0 1 1", "stand");
        due("on the GATE, but OUT behind a STEP only", gate.wall(0, 0), -2);
        due("behind one", gate.wall(0, 1), 1);
        due("the PLAIN stays", gate.cell(1, 0, 0), 0);
    }

    private static void stepsBack() {
        says("BACK: of at most 3 PEOPLE who are there, on at most 36 CELLS: how many SITUATIONS there are (these PEOPLE on unlike CELLS"
            + " that are plain or GATES, without HERALDS' CELLS) from which one STEP leads to the one there is now.");
        String three = ";person 0 0 1 1;person 1 0 1 1;person 2 0 1 1";
        due("three PEOPLE", on("row .....G" + three, "stand").ago(0), 1);
        SecondNearest four = on("row .....G" + three + ";person 5 0 1 1", "stand");
        due("four", four.ago(0), -2);
        four.tick(0, 1);
        due("of four one is OUT", four.ago(0), 1);
        SecondNearest last = on("row GGGGGGGG...." + peopleOfARow(12), "stand");
        last.tick(0, 1);
        due("four: 8 to 11", last.ago(0), -2);
        SecondNearest lastThree = on("row GGGGGGGGG..." + peopleOfARow(12), "stand");
        lastThree.tick(0, 1);
        due("three: 9 to 11", lastThree.ago(0), 1);
        due("none", on("row ..", "stand").ago(0), 1);
        due("36 CELLS: 12 by 3", on("row ............;row ............;row ............" + three, "stand").ago(0), 1);
        due("36 CELLS: 3 by 12", on("row ..." + times(";row ...", 11) + three, "stand").ago(0), 1);
        due("36 CELLS: 6 by 6", on("row ......" + times(";row ......", 5) + three, "stand").ago(0), 1);
        due("40 CELLS", on("row .........." + times(";row ..........", 3) + ";person 0 0 1 1", "stand").ago(0), -2);
        due("40 CELLS, WALLS too", on("row .........#" + times(";row ##########", 3) + ";person 0 0 1 1", "stand").ago(0), -2);
        due("40 CELLS, nobody", on("row .........." + times(";row ..........", 3), "stand").ago(0), -2);
        due("144 CELLS", on("row ............" + times(";row ............", 11), "stand").ago(0), -2);
        // he came from x 2, from x 1 he did not go: 2; at x 3 he is from x 4 alone; nobody comes to x 5, the end
        due("beside the HERALD", on("row ......;herald 0 0;person 1 0 1 1", "follow 1").ago(0), 2);
        due("on the way", on("row ......;herald 0 0;person 3 0 1 1", "follow 1").ago(0), 1);
        due("at the end", on("row ......;herald 0 0;person 5 0 1 1", "follow 1").ago(0), 0);
        due("from a GATE", on("row .G....;herald 5 0;person 2 0 1 1", "follow 1").ago(0), 1);
        due("not from a POND", on("row .~....;herald 5 0;person 2 0 1 1", "follow 1").ago(0), 0);
        due("not from a WALL", on("row .#....;herald 5 0;person 2 0 1 1", "follow 1").ago(0), 0);
        due("not from a HERALD's CELL", on("row ......;herald 5 0;herald 1 0;person 2 0 1 1", "follow 2 if x<2").ago(0), 1);
        due("from that CELL, were it FREE", on("row ......;herald 5 0;person 2 0 1 1", "follow 1 if x<2").ago(0), 2);
        due("on a GATE nobody is behind his turn", on("row .G.;herald 2 0;person 1 0 1 1", "follow 1").ago(0), 0);
        // one who was beside the GATE may have come OUT now, but one who is OUT was so: PEOPLE who are there alone count
        SecondNearest out = on("row .G.;herald 2 0;person 0 0 1 1", "follow 1");
        out.tick(0, 1);
        due("nobody there: the one SITUATION", out.ago(0), 1);
    }

    private static void agoAnswers() {
        says("BACK; -2: too many PEOPLE or CELLS (columns times rows); NONE without that LAW or a PLAIN.");
        SecondNearest few = on("row ....;person 0 0 1 1;person 1 0 1 1;person 2 0 1 1", "stand");
        SecondNearest many = on("row ....;person 0 0 1 1;person 1 0 1 1;person 2 0 1 1;person 3 0 1 1", "stand");
        SecondNearest wide = on("row ............" + times(";row ............", 3), "stand");
        due("few", few.ago(0), 1);
        due("too many PEOPLE", many.ago(0), -2);
        due("too many CELLS", wide.ago(0), -2);
        for (int law : new int[] {-1, 1, 6, WILD[0], WILD[1]}) {
            due("LAW " + law, few.ago(law), NONE);
            due("LAW " + law + ", too many PEOPLE", many.ago(law), NONE);
            due("LAW " + law + ", too many CELLS", wide.ago(law), NONE);
        }
        due("no PLAIN", withLaw("stand").ago(0), NONE);
        due("neither", new SecondNearest().ago(0), NONE);
    }

    // ---- promises 23 to 25

    /** Of three SPOORS the last is not so. */
    private static SecondNearest threeSpoors() {
        SecondNearest s = on("row ....;person 0 0 1 1;person 1 0 1 1;herald 3 0", "follow 1");
        due("the first", s.spoor(1, 0, 1), 1);
        due("the second", s.spoor(200, 1, 0), 2);
        due("the third", s.spoor(2, 0, 12), 3);
        return s;
    }

    private static void noSpoor(int step, int person, int other) {
        String call = "spoor(" + step + ", " + person + ", " + other + ")";
        stays(call, PlanBoundaries::threeSpoors, s -> s.spoor(step, person, other), -2);
    }

    private static void spoorsAsTold() {
        says("SPOORS 0 to 39: at a STEP (1 to 200, from now on) a PERSON follows another one (PERSON, or 12 and a HERALD).");
        SecondNearest s = on("row ....;person 0 0 1 1;person 1 0 1 1;herald 3 0", "follow 1");
        due("STEP 1", s.spoor(1, 0, 1), 1);
        due("STEP 200", s.spoor(200, 1, 0), 2);
        due("a HERALD", s.spoor(2, 0, 12), 3);
        due("STEP 0", s.spoor(0, 0, 1), -2);
        due("STEP 201", s.spoor(201, 0, 1), -2);
        due("a HERALD who is not", s.spoor(2, 0, 13), -2);
        due("himself", s.spoor(2, 0, 0), -2);
        for (int i = 3; i < 40; i++) {
            due("SPOOR " + i, s.spoor(i, 0, 1), i + 1);
        }
        due("SPOOR 40", s.spoor(40, 0, 1), -2);
        // PERSON 0 is drawn to x 2 by the HERALD in two STEPS: what is told for STEP 2 is told for the second from now on
        SecondNearest t = on("row ....;person 0 0 1 1;herald 3 0", "follow 1 if x=1", "follow 1");
        due("STEP 2", t.spoor(2, 0, 12), 1);
        due("now he stands", t.judged(0), 0);
        due("by the other LAW he follows", t.judged(1), -2);
        t.tick(1, 1);
        due("from x 1 he follows, but in the first STEP alone", t.judged(0), 0);
        t.spoor(0, NONE, 0);
        t.spoor(1, 0, 12);
        due("STEP 1", t.judged(0), -2);
    }

    private static void spoorAnswers() {
        says("A SPOOR (person NONE: there are none then, 0): how many there are; -2, and nothing happens, for others, or if there are 40.");
        for (int step : new int[] {0, -1, 201, WILD[0], WILD[1]}) {
            noSpoor(step, 0, 1);
        }
        for (int person : new int[] {-2, 2, 11, 12, WILD[0], WILD[1]}) {
            noSpoor(1, person, 1);
        }
        for (int other : new int[] {-1, -2, 2, 11, 13, 14, WILD[0], WILD[1]}) {
            noSpoor(1, 0, other);
        }
        noSpoor(1, 0, 0);
        noSpoor(1, 1, 1);
        SecondNearest s = threeSpoors();
        due("the third is not so", s.judged(0), 2);
        due("none then, whatever else is told", s.spoor(-7, NONE, 99), 0);
        due("SPOORS", s.count(6), 0);
        due("all are so", s.judged(0), -2);
        for (int i = 1; i <= 39; i++) {
            due("SPOOR " + i, s.spoor(i, 0, 1), i);
        }
        due("all are so", s.judged(0), -2);
        due("the 40th", s.spoor(1, 0, 12), 40);
        due("is not so: number 39", s.judged(0), 39);
        due("a 41st", s.spoor(1, 1, 12), -2);
        due("SPOORS", s.count(6), 40);
        due("the last is number 39 still", s.judged(0), 39);
        due("a 41st for another", s.spoor(1, 7, 12), -2);
        due("none again", s.spoor(1, NONE, 1), 0);
        due("from the first", s.spoor(1, 0, 12), 1);
        due("which is not so", s.judged(0), 0);
        due("no PLAIN", new SecondNearest().spoor(1, 0, 1), -2);
        due("no PLAIN: none then", new SecondNearest().spoor(1, NONE, 1), 0);
    }

    private static void judgements() {
        says("JUDGED by a LAW: the first SPOOR, as told, that is not so (at his turn in that STEP the CLAUSE says FOLLOW"
            + " and it is that one).");
        SecondNearest s = on("row ....;person 0 0 1 1;person 1 0 1 1;herald 3 0", "follow 1", "follow 3", "stand");
        due("none told", s.judged(0), -2);
        s.spoor(5, 0, 1);
        due("he could not go, but it is so", s.judged(0), -2);
        due("he SEES not so many", s.judged(1), 0);
        due("the CLAUSE says stand", s.judged(2), 0);
        s.spoor(9, 0, 12);
        s.spoor(1, 0, 12);
        due("the first as told, not the earliest STEP", s.judged(0), 1);
        // 0 is OUT at STEP 2, where he follows still
        SecondNearest t = on("row ..G.;person 0 0 1 1;herald 3 0", "follow 1");
        t.spoor(2, 0, 12);
        due("in his last STEP", t.judged(0), -2);
        t.spoor(3, 0, 12);
        due("behind it", t.judged(0), 1);
        SecondNearest out = on("row .G;person 0 0 1 1;person 1 0 1 1", "follow 1");
        out.spoor(1, 1, 0);
        due("on the GATE he follows still", out.judged(0), -2);
        out.spoor(2, 1, 0);
        due("OUT he does not", out.judged(0), 1);
        SecondNearest many = on("row ..G.;person 0 0 1 1;herald 3 0", "follow 1");
        for (int i = 0; i < 39; i++) {
            many.spoor(1, 0, 12);
        }
        many.spoor(3, 0, 12);
        due("the last of 40, at the last STEP", many.judged(0), 39);
        // as all stand at his turn: 0 has gone to x 1, and is ahead of the HERALD at 4
        SecondNearest u = on("row ......;person 0 0 1 1;person 3 0 1 1;herald 5 0", "follow 1");
        u.spoor(1, 1, 0);
        due("at his turn", u.judged(0), -2);
        due("though now it is the HERALD", u.follows(0, 1), 12);
        SecondNearest late = late(473);
        int whom = whomAtLast(late);
        due("he follows somebody in STEP 200, and comes OUT", whom >= 0, true);
        late.spoor(0, NONE, 0);
        late.spoor(200, 7, whom);
        due("STEP 200 is so", late.judged(1), -2);
        late.tick(1, 1);
        due("a STEP later he is OUT by then", late.judged(1), 0);
    }

    private static void judgedAnswers() {
        says("JUDGED; -2: all are so; NONE without these.");
        SecondNearest s = on("row ....;person 0 0 1 1;person 1 0 1 1;herald 3 0", "follow 1", "follow 3", "stand");
        for (int law : new int[] {-1, 3, 6, WILD[0], WILD[1]}) {
            due("LAW " + law, s.judged(law), NONE);
        }
        due("no PLAIN", withLaw("stand").judged(0), NONE);
        due("no PLAIN, no LAW", new SecondNearest().judged(0), NONE);
    }

    /** Whom PERSON 7 follows at STEP 200 by LAW 1: the one SPOOR of all that is so. */
    private static int whomAtLast(SecondNearest s) {
        int whom = NONE;
        int found = 0;
        for (int other = 0; other <= 13; other++) {
            s.spoor(0, NONE, 0);
            if (s.spoor(200, 7, other) == 1 && s.judged(1) == -2) {
                whom = other;
                found++;
            }
        }
        due("just one is so", found, 1);
        return whom;
    }

    private static void bestLaws() {
        says("BEST LAW for n STEPS: by which most are OUT, of several the first.");
        SecondNearest s = late(473);
        due("in 200", s.bestLaw(200), 1);
        due("in 199 none is OUT by either", s.bestLaw(199), 0);
        due("in 200, a STEP sooner", late(472).bestLaw(200), 0);
        SecondNearest t = on("row .G.;person 0 0 1 1;herald 2 0", "stand", "follow 9", "stand if x=0", "follow 3", "follow 2");
        due("none by any: the first", t.bestLaw(1), 0);
        due("LAW 5", law(t, "follow 1"), 5);
        due("the last of six", t.bestLaw(1), 5);
        due("behind none", t.bestLaw(0), 0);
        SecondNearest like = on("row .G.;person 0 0 1 1;herald 2 0", "stand", "follow 1", "follow 1;stand");
        due("of two alike the first", like.bestLaw(1), 1);
    }

    private static void bestLawAnswers() {
        says("BEST LAW (n 0 to 200); -2: there are none; NONE without these.");
        SecondNearest t = on("row .G.;person 0 0 1 1;herald 2 0", "stand", "follow 9", "stand if x=0", "follow 3", "follow 2");
        for (int n : new int[] {-1, 201, WILD[0], WILD[1]}) {
            due("n " + n, t.bestLaw(n), NONE);
        }
        due("no LAWS", on("row .").bestLaw(0), -2);
        due("no LAWS", on("row .").bestLaw(200), -2);
        due("one LAW", on("row .", "stand").bestLaw(0), 0);
        due("no PLAIN", withLaw("stand").bestLaw(0), NONE);
        due("neither", new SecondNearest().bestLaw(0), NONE);
    }

    // ---- promises 26 to 28

    private static void counts() {
        says("What 0: columns, 1: rows, 2: PEOPLE, 3: HERALDS, 4: STEPS, 5: OUT, 6: SPOORS (0 without a PLAIN), 7: LAWS"
            + ", 8: bytes of the TAPE, 9: GATES. NONE for others.");
        SecondNearest s = busy();
        s.feed(0, 0, 0, 0, 0);
        s.end(13);
        int[] want = {4, 2, 2, 1, 1, 1, 2, 2, 13, 1};
        for (int what = 0; what <= 9; what++) {
            due("what " + what, s.count(what), want[what]);
        }
        for (int what : new int[] {-1, 10, WILD[0], WILD[1]}) {
            due("what " + what, s.count(what), NONE);
        }
        SecondNearest none = withLaw("stand");
        none.feed(0, 0, 0, 0, 0);
        int[] without = {0, 0, 0, 0, 0, 0, 0, 1, 20, 0};
        for (int what = 0; what <= 9; what++) {
            due("without a PLAIN, what " + what, none.count(what), without[what]);
        }
        SecondNearest full = on("row GGGGGGGGGGGG" + times(";row GGGGGGGGGGGG", 11));
        due("12 columns", full.count(0), 12);
        due("12 rows", full.count(1), 12);
        due("144 GATES", full.count(9), 144);
    }

    /** IMAGES 0 and on of the SITUATIONS behind so many STEPS; in each STEP more is told and gone. */
    private static SecondNearest withImages(int n) {
        SecondNearest s = on("row ..G.;row .#..;person 0 0 1 1;person 0 1 2 2;herald 3 0", "follow 1", "follow 2");
        for (int k = 0; k < n; k++) {
            due("image(" + k + ")", s.image(k), k);
            s.tick(1, 1);
            s.spoor(k + 1, 0, 12);
            s.goes(0, k % 2 == 0 ? 4 : 0);
        }
        return s;
    }

    private static void images() {
        says("IMAGES 0 to 3: all but the LAWS and the TAPE, as it is; gone back to, it is as it was (these stay).");
        for (int k = 0; k <= 3; k++) {
            SecondNearest s = withImages(4);
            for (int other : new int[] {3, k, 0, k, k}) {
                due("back(" + other + ")", s.back(other), other);
            }
            due("all of IMAGE " + k, state(s), state(withImages(k)));
            s.tick(0, 3);
            s.spoor(1, NONE, 0);
            s.back(k);
            due("all of IMAGE " + k + " again", state(s), state(withImages(k)));
        }
        imagesAndTheRest();
        spoorsOfImages();
    }

    private static void imageAnswers() {
        says("An IMAGE is made: STEPS; NONE without it.");
        for (int k : new int[] {-1, 4, WILD[0], WILD[1]}) {
            stays("image(" + k + ")", () -> withImages(4), s -> s.image(k), NONE);
        }
        SecondNearest s = withImages(4);
        due("image(-1)", s.image(-1), NONE);
        due("image(4)", s.image(4), NONE);
        due("the first is what it was", s.back(0), 0);
        due("the last too", s.back(3), 3);
        due("in place of the first", s.image(0), 3);
        s.tick(0, 7);
        due("the later one", s.back(0), 3);
        due("without a PLAIN", new SecondNearest().image(0), 0);
    }

    private static void backAnswers() {
        says("All is as in an IMAGE: STEPS; NONE, and nothing happens, if it was never made, or without it.");
        for (int k : new int[] {-1, 4, WILD[0], WILD[1]}) {
            stays("back(" + k + ")", () -> withImages(4), s -> s.back(k), NONE);
        }
        for (int made = 0; made <= 3; made++) {
            for (int k = 0; k <= 3; k++) {
                int n = made;
                int number = k;
                if (k < made) {
                    due("back(" + k + "), made " + made, withImages(n).back(k), k);
                } else {
                    stays("back(" + k + "), made " + made, () -> withImages(n), s -> s.back(number), NONE);
                }
            }
        }
    }

    /** LAWS and TAPE stay; another PLAIN, or none, goes. */
    private static void imagesAndTheRest() {
        SecondNearest s = busy();
        SecondNearest twin = busy();
        s.image(0);
        due("another PLAIN", plain(s, "row #.#.;row G...;person 1 0 9 9;person 3 0 8 8;person 2 1 7 7;herald 1 1;herald 3 1"), 3);
        due("a LAW more", law(s, "follow 2"), 2);
        due("for the twin, too", law(twin, "follow 2"), 2);
        tell(s, "row .");
        tell(twin, "row .");
        due("back", s.back(0), 1);
        due("all of it, with the LAW and the TAPE", state(s), state(twin));
        due("the TAPE is what it was", s.plain(), 0);
        due("one column", s.count(0), 1);
        due("back once more", s.back(0), 1);
        twin.end(0);
        due("all of it again", state(s), state(twin));
        SecondNearest eleven = on(ELEVEN, ELEVEN_LAW);
        eleven.tick(0, 10);
        eleven.image(2);
        due("another PLAIN", plain(eleven, "row ."), 0);
        eleven.back(2);
        due("PERSON 11 came OUT at", eleven.person(11, 4), 10);
        due("his sort", eleven.person(11, 3), 1);
        due("all are OUT", eleven.count(5), 12);
        SecondNearest none = new SecondNearest();
        due("an IMAGE without a PLAIN", none.image(3), 0);
        due("a PLAIN", plain(none, "row .G;person 0 0 1 1"), 1);
        due("back", none.back(3), 0);
        due("none again", state(none), "count 0 0 0 0 0 0 0 0 0 0");
        due("SPOORS without a PLAIN", none.spoor(1, 0, 1), -2);
    }

    private static void tellSpoors(SecondNearest s, int n, int step, int person, int other) {
        for (int i = 0; i < n; i++) {
            s.spoor(step, person, other);
        }
    }

    /** All three numbers of all 40 SPOORS come again. */
    private static void spoorsOfImages() {
        SecondNearest s = on("row ....;person 0 0 1 1;person 1 0 1 1;herald 3 0", "follow 1");
        tellSpoors(s, 39, 1, 0, 1);
        s.spoor(1, 1, 0);
        s.image(1);
        s.spoor(0, NONE, 0);
        tellSpoors(s, 40, 1, 0, 12);
        due("not so", s.judged(0), 0);
        due("back", s.back(1), 0);
        due("40 again", s.count(6), 40);
        due("all so again", s.judged(0), -2);
        SecondNearest t = on("row ..G.;person 0 0 1 1;herald 3 0", "follow 1");
        tellSpoors(t, 40, 2, 0, 12);
        t.image(1);
        t.spoor(0, NONE, 0);
        tellSpoors(t, 40, 3, 0, 12);
        due("not so at STEP 3", t.judged(0), 0);
        t.back(1);
        due("so at STEP 2", t.judged(0), -2);
    }

    private static void allCalls() {
        says("An object is used for at most 512 calls after it has been made; what later calls answer is free.");
        SecondNearest s = new SecondNearest();
        // "row .;person 0 0 1 1" and "stand": 2 and 3 calls
        s.feed(0x726f7720, 0x2e3b7065, 0x72736f6e, 0x20302030, 0x20312031);
        due("call 2", s.plain(), 1);
        s.feed(0x7374616e, 0x64000000, 0, 0, 0);
        s.end(5);
        due("call 5", s.law(), 0);
        for (int call = 6; call <= 511; call++) {
            due("call " + call, s.tick(0, 200), 200 * (call - 5));
        }
        due("call 512", s.count(4), 200 * 506);
    }

    static void run() {
        nothingChanges();
        aheadToTheLimit();
        aheadAnswers();
        roundsToTheLimit();
        roundAnswers();
        longestFiles();
        rings();
        filesAnswers();
        askedNow();
        takenAway();
        withoutAnswers();
        leaders();
        leaderAnswers();
        posts();
        postAnswers();
        leads();
        leadAnswers();
        walls();
        wallAnswers();
        stepsBack();
        agoAnswers();
        spoorsAsTold();
        spoorAnswers();
        judgements();
        judgedAnswers();
        bestLaws();
        bestLawAnswers();
        counts();
        images();
        imageAnswers();
        backAnswers();
        allCalls();
    }
}
