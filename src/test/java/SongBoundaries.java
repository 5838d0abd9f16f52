/** What is told, what sang, what was wooden, June, marks and counts: promises 19 to 25. */
final class SongBoundaries extends Boundary {
    private static final String THREE = "hills 8 2;person a plain at 0 0 purse 10;person b plain at 3 0 purse 2;person c rich at 5 0 purse 0;"
            + "go b hour 9 at 1 0;bird k at 0 0;bird l at 7 1;call k hour 8 times 2;call l hour 8 times 1;call k hour 9 times 1;owe far + 1;";
    /** a owes b a penny at each call. */
    private static final String PENNY = "hills 2 2;person a plain at 0 0 purse 0;person b deaf at 0 0 purse 0;bird k at 0 0;";

    private SongBoundaries() {
    }

    static void all() {
        told();
        sang();
        song();
        wooden();
        june();
        marks();
        count();
    }

    // ---- promise 19

    private static void told() {
        sentence(19, "TOLD: of PERSONS, how many pence each owes.");
        run(PENNY).due("told(0, 3) = true", "sang(0) = 1", "song(0, 0, 0) = 3", "told(0, 4) = true", "song(0, 0, 0) = 4", "count(6) = 1", "told(1, 0) = true",
                "count(6) = 2", "sang(0) = 1", "told(1, 1) = true", "sang(0) = 0");
        sentence(19, "TOLD of a PERSON: pence (0 to 9999; NONE: nothing is told any more): true");
        Run run = run(THREE).due("told(0, 0) = true", "count(6) = 1", "told(0, 1) = true", "told(0, 9998) = true", "told(0, 9999) = true", "count(6) = 1",
                "told(0, 9999) = true", "told(2, 0) = true", "count(6) = 2", "told(1, -1) = true", "count(6) = 2", "told(2, -1) = true", "count(6) = 1",
                "told(2, -1) = true", "wooden(0) = 0", "told(0, -1) = true", "count(6) = 0", "wooden(0) = 4", "count(7) = 0");
        sentence(19, "false: others.");
        run.due("told(0, 12) = true", "wooden(0) = 1").changesNothing("told(0, -2) = false", "told(0, 10000) = false", "told(-1, 5) = false", "told(3, 5) = false",
                "told(6, 5) = false", "told(3, -1) = false", "told(-1, -1) = false", "told(" + GREAT + ", 5) = false", "told(" + SMALL + ", 5) = false",
                "told(0, " + GREAT + ") = false", "told(0, " + SMALL + ") = false");
        // so much can be owed, and be told
        StringBuilder much = new StringBuilder("hills 2 2;person a plain at 0 0 purse 0;person b deaf at 0 0 purse 0;bird k at 0 0;owe 99;");
        for (int hour = 0; hour < 11; hour++) {
            much.append("call k hour ").append(hour).append(" times 9;");
        }
        run(much + "call k hour 11 times 2;").due("owed(0, 1) = 9999", "told(0, 9999) = true", "wooden(0) = 1", "wooden(1) = 0", "told(0, 9998) = true", "wooden(0) = 0");
        run(much + "call k hour 11 times 3;").due("owed(0, 1) = 10098", "told(0, 10098) = false", "told(0, 9999) = true", "wooden(0) = 0");
    }

    // ---- promises 20 and 21

    private static void sang() {
        sentence(20, "SANG: rows of times (0 to 5)");
        int[] rows = {1, 1, 1, 1, 1, 1, 0};
        for (int pence = 0; pence < rows.length; pence++) {
            run(PENNY).due("told(0, " + pence + ") = true", "sang(7) = " + rows[pence], "song(7, 0, 0) = " + (rows[pence] > 0 ? pence : -1), "song(7, 1, 0) = -1");
        }
        run(PENNY).due("sang(7) = 6", "song(7, 0, 0) = 0", "song(7, 5, 0) = 5", "song(7, 6, 0) = -1");
        run(PENNY + "call k hour 7 times 9;").due("sang(7) = 6", "told(0, 9) = true", "sang(7) = 0", "told(0, 5) = true", "sang(7) = 1", "calls(0, 7) = 9");
        ofAllBirds();
        justThat();
        sentence(20, "SANG in an hour: how many rows");
        run(PENNY).due("sang(0) = 6", "sang(23) = 6", "told(1, 1) = true", "sang(0) = 0", "sang(23) = 0");
        // 2 by each of k, 8 by each of l in hour 9, 4 and 6 in others
        run(THREE).due("told(1, 12) = true", "sang(8) = 2", "sang(9) = 1", "song(9, 0, 0) = 2", "song(9, 0, 1) = 1", "sang(7) = 2", "sang(10) = 1");
        // b is there till hour 5: whom a sees, and what it owes, is by the hour that is asked for
        run(PENNY.replace("bird k", "go b hour 5 at 1 1;bird k") + "fog 0;call k hour 0 times 2;call k hour 5 times 3;").due("told(0, 2) = true", "wooden(0) = 1", "wooden(1) = 0", "sang(5) = 0",
                "sang(4) = 1", "sang(23) = 0", "song(4, 0, 0) = 2", "song(5, 0, 0) = -1", "told(0, 0) = true", "sang(5) = 6", "sang(4) = 1", "wooden(1) = 1");
        sentence(20, "NONE: no such hour.");
        run(PENNY).changesNothing("sang(-1) = -1", "sang(24) = -1", "sang(" + GREAT + ") = -1", "sang(" + SMALL + ") = -1", "sang(0) = 6", "sang(23) = 6");
    }

    private static void ofAllBirds() {
        sentence(20, "of all BIRDS that are not SHOT");
        String five = PENNY + "bird l at 0 0;bird m at 0 0;bird n at 0 0;bird o at 0 0;";
        Run run = run(five).due("sang(0) = 7776", "song(0, 7775, 4) = 5", "song(0, 7776, 4) = -1", "told(0, 25) = true", "sang(0) = 1", "told(0, 26) = true", "sang(0) = 0",
                "told(0, 1) = true", "sang(0) = 5");
        run.due("shoot(4, true) = true", "sang(0) = 4", "shoot(0, true) = true", "sang(0) = 3", "song(0, 0, 3) = 1", "song(0, 2, 1) = 1", "song(0, 2, 0) = -1",
                "song(0, 2, 4) = -1", "shoot(1, true) = true", "shoot(2, true) = true", "sang(0) = 1", "song(0, 0, 3) = 1", "shoot(3, true) = true",
                "sang(0) = 0", "told(0, 0) = true", "sang(0) = 1", "song(0, 0, 3) = -1", "told(0, -1) = true", "sang(0) = 1");
        // no bird at all: one row, of nothing
        run("hills 2 2;person a plain at 0 0 purse 0;").due("sang(0) = 1", "told(0, 0) = true", "sang(0) = 1", "told(0, 1) = true", "sang(0) = 0");
    }

    private static void justThat() {
        sentence(20, "by which in that hour each PERSON of whom it is TOLD owes just that: how many");
        // b owes 4 by each call of k, 6 by each of l in hour 8, c 12 and 8
        run(THREE).due("sang(8) = 36", "told(1, 11) = true", "sang(8) = 0", "told(1, 13) = true", "sang(8) = 0", "told(1, 12) = true", "sang(8) = 2",
                "told(2, 36) = true", "sang(8) = 1", "song(8, 0, 0) = 3", "song(8, 0, 1) = 0", "told(2, 37) = true", "sang(8) = 0", "told(2, 16) = true", "sang(8) = 1",
                "song(8, 0, 0) = 0", "song(8, 0, 1) = 2", "told(2, -1) = true", "sang(8) = 2", "told(1, 50) = true", "sang(8) = 1", "song(8, 0, 1) = 5", "told(1, 51) = true", "sang(8) = 0");
        // by two numbers of times a child owes alike
        run(PENNY.replace("plain", "child")).due("told(0, 0) = true", "sang(0) = 2", "song(0, 1, 0) = 1", "told(0, 2) = true", "sang(0) = 2", "song(0, 0, 0) = 4", "song(0, 1, 0) = 5");
        // the law may ask for the times: 2 by one call, 4 by two, nothing by three
        run(PENNY + "owe 2 * ( times < 3 );").due("told(0, 0) = true", "sang(0) = 4", "song(0, 0, 0) = 0", "song(0, 1, 0) = 3", "told(0, 4) = true", "song(0, 0, 0) = 2");
        // nobody who hears is there: any row does
        run(PENNY.replace("plain", "deaf")).due("told(0, 0) = true", "sang(0) = 6", "told(0, 1) = true", "sang(0) = 0");
    }

    private static void song() {
        sentence(21, "of the i-th the times of a BIRD (the least row first: by BIRD 0's times, then by 1's, and so on)");
        Run run = run(PENNY + "bird l at 0 0;bird m at 0 0;");
        run.due("sang(0) = 216");
        for (int i : new int[] {0, 1, 5, 6, 35, 36, 37, 214, 215}) {
            run.due("song(0, " + i + ", 0) = " + i / 36, "song(0, " + i + ", 1) = " + i / 6 % 6, "song(0, " + i + ", 2) = " + i % 6);
        }
        run.due("told(0, 2) = true", "sang(0) = 6");
        int[][] rows = {{0, 0, 2}, {0, 1, 1}, {0, 2, 0}, {1, 0, 1}, {1, 1, 0}, {2, 0, 0}};
        for (int i = 0; i < rows.length; i++) {
            for (int bird = 0; bird < 3; bird++) {
                run.due("song(0, " + i + ", " + bird + ") = " + rows[i][bird]);
            }
        }
        // one that is shot is in no row
        run.due("shoot(1, true) = true", "sang(0) = 3", "song(0, 0, 2) = 2", "song(0, 1, 0) = 1", "song(0, 1, 2) = 1", "song(0, 2, 0) = 2", "song(0, 2, 1) = -1", "song(0, 3, 0) = -1");
        sentence(21, "Of the i-th row the times of a BIRD");
        run(THREE).due("told(1, 12) = true", "song(8, 0, 0) = 0", "song(8, 0, 1) = 2", "song(8, 1, 0) = 3", "song(8, 1, 1) = 0").changesNothing("song(8, 1, 0) = 3");
        sentence(21, "NONE: others, none such, SHOT.");
        run = run(THREE).due("told(1, 12) = true", "shoot(0, true) = true", "sang(8) = 1", "song(8, 0, 1) = 2");
        run.changesNothing("song(-1, 0, 1) = -1", "song(24, 0, 1) = -1", "song(8, -1, 1) = -1", "song(8, 1, 1) = -1", "song(8, 0, -1) = -1", "song(8, 0, 2) = -1",
                "song(8, 0, 5) = -1", "song(8, 0, 0) = -1");
        for (String stray : new String[] {GREAT, SMALL}) {
            run.due("song(" + stray + ", 0, 1) = -1", "song(8, " + stray + ", 1) = -1", "song(8, 0, " + stray + ") = -1");
        }
        sentence(21, "none such");
        run.due("told(1, 13) = true", "sang(8) = 0", "song(8, 0, 1) = -1", "told(1, -1) = true", "sang(8) = 6", "song(8, 5, 1) = 5", "song(8, 6, 1) = -1");
        run("hills 2 2;person a plain at 0 0 purse 0;").due("sang(0) = 1", "song(0, 0, 0) = -1");
        sentence(21, "SHOT");
        run.due("song(8, 5, 0) = -1", "shoot(0, false) = true", "sang(8) = 36", "song(8, 35, 0) = 5", "shoot(1, true) = true", "song(8, 0, 1) = -1", "song(8, 5, 0) = 5");
    }

    // ---- promise 22

    private static void wooden() {
        sentence(22, "WOODEN: sets of BIRDS that are not SHOT without whose calls each PERSON of whom it is TOLD owes just that in the DAY: how many; the least.");
        // c owes 36 by k, 8 by l in the day
        Run run = run(THREE).due("wooden(0) = 4", "wooden(1) = 0");
        int[][] told = {{44, 1, 0}, {36, 1, 2}, {8, 1, 1}, {0, 1, 3}, {43, 0, -1}, {45, 0, -1}, {1, 0, -1}, {9999, 0, -1}};
        for (int[] one : told) {
            run.due("told(2, " + one[0] + ") = true", "wooden(0) = " + one[1], "wooden(1) = " + one[2]);
        }
        run.due("told(2, 36) = true", "told(0, 3) = true", "wooden(1) = 2", "told(0, 12) = true", "wooden(0) = 0", "told(0, -1) = true", "wooden(0) = 1");
        run.due("shoot(1, true) = true", "wooden(0) = 1", "wooden(1) = 0", "told(2, 44) = true", "wooden(0) = 0", "told(2, 0) = true", "wooden(1) = 1", "told(2, -1) = true",
                "wooden(0) = 2", "wooden(1) = 0", "shoot(0, true) = true", "wooden(0) = 1", "wooden(1) = 0", "told(2, 1) = true", "wooden(0) = 0");
        sentence(22, "WOODEN, what 0: how many sets, 1: the least as bits (NONE: none)");
        String five = PENNY + "bird l at 0 0;bird m at 0 0;bird n at 0 0;bird o at 0 0;call k hour 0 times 1;call l hour 1 times 2;call m hour 2 times 4;call n hour 2 times 8;call o hour 23 times 8;";
        run(five).due("wooden(0) = 32", "wooden(1) = 0", "told(0, 0) = true", "wooden(0) = 1", "wooden(1) = 31", "told(0, 23) = true", "wooden(0) = 1", "wooden(1) = 0",
                "told(0, 8) = true", "wooden(0) = 2", "wooden(1) = 15", "told(0, 15) = true", "wooden(0) = 2", "wooden(1) = 8", "told(0, 22) = true", "wooden(1) = 1",
                "told(0, 24) = true", "wooden(0) = 0", "wooden(1) = -1");
        // of equal ones the least by its bits, not by how many are in it: k and l, or m
        run(five.replace("times 4", "times 3")).due("told(0, 19) = true", "wooden(0) = 2", "wooden(1) = 3");
        // one that makes nothing may be wooden or not
        run(PENNY + "bird l at 1 1;bird m at 0 0;call k hour 0 times 1;call l hour 0 times 1;hear 1;").due("told(0, 1) = true", "wooden(0) = 4", "wooden(1) = 0", "told(0, 0) = true",
                "wooden(0) = 4", "wooden(1) = 1");
        anew().due("wooden(0) = 1", "wooden(1) = 0");
        // by k alone it owes in the first hours, by l in the last: whom it sees is by the hour
        run(PENNY.replace("bird k", "go b hour 5 at 1 1;bird k") + "bird l at 0 0;fog 0;call k hour 4 times 3;call k hour 5 times 9;call l hour 3 times 2;call l hour 23 times 9;")
                .due("owed(0, 1) = 5", "told(0, 5) = true", "wooden(1) = 0", "told(0, 3) = true", "wooden(0) = 1", "wooden(1) = 2", "sang(0) = 4", "told(0, 2) = true", "wooden(1) = 1");
        sentence(22, "NONE: another what.");
        run(THREE).changesNothing("wooden(-1) = -1", "wooden(2) = -1", "wooden(" + GREAT + ") = -1", "wooden(" + SMALL + ") = -1", "wooden(0) = 4", "wooden(1) = 0");
    }

    // ---- promise 23

    /** b is owed 5 by a in hour 0, c in hour 5; both hear nothing. */
    private static String twoDebts(int purse) {
        return "hills 8 2;person a plain at 2 0 purse " + purse + ";person b deaf at 1 0 purse 0;person c deaf at 7 0 purse 3;go a hour 5 at 6 0;bird k at 0 0;"
                + "call k hour 0 times 1;call k hour 5 times 1;owe 5;";
    }

    /** Each owes 10 to the one before it, and a, who is deaf, nothing; only f's purse holds something. */
    private static String chain(int purse) {
        return "hills 8 8;person a deaf at 0 0 purse 0;person b plain at 1 0 purse 0;person c plain at 3 0 purse 0;person d plain at 6 0 purse 0;person e plain at 7 3 purse 0;"
                + "person f plain at 6 7 purse " + purse + ";bird k at 0 0;call k hour 0 times 1;owe 10;";
    }

    private static void purses(Run run, int ruined, int... purses) {
        run.due("june(-1) = " + ruined);
        for (int person = 0; person < purses.length; person++) {
            run.due("june(" + person + ") = " + purses[person]);
        }
        run.due("june(" + purses.length + ") = -2");
    }

    private static void june() {
        sentence(23, "JUNE: purses pay: rounds, in each of which each PERSON, by number, pays of what it owes");
        purses(run(twoDebts(10)), 0, 0, 5, 8);
        // c pays a in the first round, behind a: a goes on in the second one
        purses(run("hills 8 2;person a plain at 1 0 purse 0;person b deaf at 0 0 purse 5;person c plain at 3 0 purse 10;bird k at 0 0;call k hour 0 times 1;owe 10;"), 0, 0, 15, 0);
        sentence(23, "(NETTED by twos ahead: of two only the difference is owed)");
        String two = "hills 2 2;person a plain at 0 0 purse 0;person b plain at 0 0 purse 0;bird k at 0 0;call k hour 0 times 9;owe 99;";
        purses(run(two), 0, 0, 0);
        purses(run(two.replace("a plain", "a rich")), 1, 0, 0);
        purses(run(two.replace("b plain", "b rich")), 2, 0, 0);
        purses(run(two.replace("a plain at 0 0 purse 0", "a rich at 0 0 purse 891")), 0, 0, 891);
        purses(run(two.replace("a plain at 0 0 purse 0", "a rich at 0 0 purse 890")), 1, 0, 890);
        purses(run(two.replace("a plain at 0 0 purse 0", "a rich at 0 0 purse 892")), 0, 1, 891);
        asFarAsItGoes();
        sentence(23, "what is paid may be paid on");
        purses(run(chain(10)), 0, 10, 0, 0, 0, 0, 0);
        purses(run(chain(9)), 62, 9, 0, 0, 0, 0, 0);
        purses(run(chain(11)), 0, 10, 0, 0, 0, 0, 1);
        sentence(23, "till none pays anything.");
        purses(run(chain(0)), 62, 0, 0, 0, 0, 0, 0);
        purses(run(chain(1)), 62, 1, 0, 0, 0, 0, 0);
        purses(anew(), 0);
        sentence(23, "RUINED: who still owes then; what a purse holds.");
        purses(run(chain(0).replace("c plain at 3 0 purse 0", "c plain at 3 0 purse 9999")), 56, 10, 0, 9989, 0, 0, 0);
        purses(run(THREE), 4, 0, 12, 0);
        purses(run(THREE).due("shoot(0, true) = true", "shoot(1, true) = true"), 0, 10, 2, 0);
        run(THREE).changesNothing("june(-1) = 4", "june(0) = 0", "june(2) = 0").due("june(0) = 0", "person(0, 1) = 10");
        sentence(23, "JUNE, what NONE: RUINED as bits; else what the purse of that PERSON holds");
        purses(run(chain(30)), 0, 10, 0, 0, 0, 0, 20);
        sentence(23, "-2: others.");
        run(THREE).changesNothing("june(-2) = -2", "june(3) = -2", "june(6) = -2", "june(" + GREAT + ") = -2", "june(" + SMALL + ") = -2", "june(-1) = 4", "june(2) = 0");
        run(chain(10)).due("june(5) = 0", "june(6) = -2");
    }

    private static void asFarAsItGoes() {
        sentence(23, "to others, by number, as far as its purse goes");
        purses(run(twoDebts(0)), 1, 0, 0, 3);
        purses(run(twoDebts(1)), 1, 0, 1, 3);
        purses(run(twoDebts(4)), 1, 0, 4, 3);
        purses(run(twoDebts(5)), 1, 0, 5, 3);
        purses(run(twoDebts(6)), 1, 0, 5, 4);
        purses(run(twoDebts(9)), 1, 0, 5, 7);
        purses(run(twoDebts(10)), 0, 0, 5, 8);
        purses(run(twoDebts(11)), 0, 1, 5, 8);
        purses(run(twoDebts(9999)), 0, 9989, 5, 8);
    }

    // ---- promises 24 and 25

    private static void marks() {
        sentence(24, "MARKS 0 to 3 hold the calls, who is SHOT, what is TOLD");
        Run run = run(THREE).first("call(0, 3, 3)", "shoot(1, true)", "told(2, 8)");
        run.due("mark(3, false) = true", "call(0, 3, 4) = true", "shoot(1, false) = true", "shoot(0, true) = true", "told(2, -1) = true", "told(0, 5) = true", "told(1, 6) = true");
        run.due("mark(0, false) = true", "call(0, 3, 0) = true", "mark(1, false) = true", "mark(2, false) = true", "count(4) = 3", "count(6) = 2");
        run.due("mark(3, true) = true", "calls(0, 3) = 3", "bird(0, 1) = 0", "bird(1, 1) = 1", "count(5) = 1", "count(6) = 1", "wooden(0) = 0", "told(2, -1) = true", "wooden(0) = 2");
        run.due("mark(0, true) = true", "calls(0, 3) = 4", "bird(0, 1) = 1", "bird(1, 1) = 0", "count(6) = 2", "mark(1, true) = true", "calls(0, 3) = 0", "mark(2, true) = true",
                "calls(0, 3) = 0", "mark(3, true) = true", "calls(0, 3) = 3", "count(6) = 1");
        // all of it: the last bird's call in the last hour, the last one's debt
        run(FullBoundaries.HOUSE).due("call(4, 23, 7) = true", "call(4, 0, 2) = true", "shoot(4, true) = true", "told(5, 9) = true", "mark(1, false) = true", "call(4, 23, 1) = true",
                "call(4, 0, 0) = true", "shoot(4, false) = true", "told(5, -1) = true", "mark(1, true) = true", "calls(4, 23) = 7", "calls(4, 0) = 2", "bird(4, 1) = 1", "count(6) = 1", "sang(0) = 0");
        // one may be laid anew, and holds what is there then
        run.due("call(0, 3, 9) = true", "mark(3, false) = true", "call(0, 3, 1) = true", "mark(3, true) = true", "calls(0, 3) = 9", "mark(0, true) = true", "calls(0, 3) = 4");
        sentence(24, "(nothing can be undone when one is gone back to).");
        run.due("count(7) = 0", "undo() = false", "call(0, 5, 5) = true", "call(0, 6, 6) = true", "count(7) = 2", "mark(1, false) = true", "count(7) = 2", "undo() = true",
                "count(7) = 1", "mark(1, true) = true", "count(7) = 0", "undo() = false", "calls(0, 6) = 6", "call(0, 6, 7) = true", "undo() = true", "calls(0, 6) = 6", "undo() = false");
        sentence(24, "A MARK is laid (back: gone back to): true");
        for (int mark = 0; mark < 4; mark++) {
            run(THREE).due("mark(" + mark + ", false) = true", "mark(" + mark + ", false) = true", "call(0, 0, 1) = true", "mark(" + mark + ", true) = true", "count(4) = 3",
                    "mark(" + mark + ", true) = true");
        }
        sentence(24, "false: none such, nothing is on it (back).");
        Run other = run(THREE).first("call(0, 0, 1)", "told(0, 4)", "shoot(1, true)", "mark(2, false)", "call(0, 1, 1)");
        other.changesNothing("mark(-1, false) = false", "mark(-1, true) = false", "mark(4, false) = false", "mark(4, true) = false", "mark(32, true) = false",
                "mark(34, true) = false", "mark(" + GREAT + ", false) = false", "mark(" + GREAT + ", true) = false", "mark(" + SMALL + ", false) = false", "mark(" + SMALL + ", true) = false");
        sentence(24, "nothing is on it (back)");
        other.changesNothing("mark(0, true) = false", "mark(1, true) = false", "mark(3, true) = false");
        other.due("mark(2, true) = true", "mark(0, true) = false").hills(THREE).due("mark(2, true) = false");
    }

    private static void count() {
        sentence(25, "What 0: wide, 1: deep, 2: PERSONS, 3: BIRDS, 4: calls (BIRDS and hours), 5: SHOT, 6: PERSONS of whom it is TOLD, 7: how many can be undone, 8: signs on the TAPE.");
        Run run = run("hills 7 3;person a plain at 0 0 purse 1;person b plain at 0 0 purse 1;bird c at 6 2;bird d at 0 0;bird e at 0 0;call c hour 3 times 2;call c hour 4 times 9;");
        run.due("count(0) = 7", "count(1) = 3", "count(2) = 2", "count(3) = 3", "count(4) = 2", "count(5) = 0", "count(6) = 0", "count(7) = 0", "count(8) = 0");
        run.first("shoot(0, true)", "told(1, 5)", "call(0, 5, 1)", "call(0, 3, 1)", "call(1, 3, 9)", "shoot(2, true)").feed("owe 1");
        run.due("count(0) = 7", "count(1) = 3", "count(2) = 2", "count(3) = 3", "count(4) = 4", "count(5) = 2", "count(6) = 1", "count(7) = 5", "count(8) = 5");
        run("hills 2 8;").due("count(0) = 2", "count(1) = 8");
        sentence(25, "NONE for another what.");
        run.changesNothing("count(-1) = -1", "count(9) = -1", "count(10) = -1", "count(" + GREAT + ") = -1", "count(" + SMALL + ") = -1", "count(0) = 7", "count(8) = 5");
    }
}
