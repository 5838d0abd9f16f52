/** As many of all as there can be at once: six people, five birds, thirty calls, four marks, twenty to undo. */
final class FullBoundaries extends Boundary {
    /** Six people in two corners, of whom f goes to and fro, and five birds. */
    static final String HOUSE = "hills 8 8;person a plain at 0 0 purse 50;person b deaf at 7 7 purse 0;person c child at 7 6 purse 99;person d rich at 0 1 purse 200;"
            + "person e shy at 2 1 purse 10;person f plain at 6 6 purse 0;go f hour 12 at 1 1;go f hour 23 at 7 5;bird p at 0 0;bird q at 7 7;bird r at 0 7;bird s at 7 0;"
            + "bird t at 3 3;owe far + times;fog 10 - y;hear 9;";
    private static final int[] CALLED_HOURS = {0, 5, 10, 15, 20, 23};

    private FullBoundaries() {
    }

    static void all() {
        calls();
        entries();
        owed();
        without();
        stand();
        picnic();
        songs();
        june();
        sixTold();
    }

    private static Run full() {
        Run run = run(HOUSE);
        for (int i = 0; i < 30; i++) {
            run.first("call(" + i % 5 + ", " + CALLED_HOURS[i / 5] + ", " + (i % 9 + 1) + ")");
        }
        return run;
    }

    private static void calls() {
        sentence(3, "30 at most, those by hand too");
        full().due("count(2) = 6", "count(3) = 5", "count(4) = 30", "count(7) = 20", "calls(0, 0) = 1", "calls(4, 0) = 5", "calls(0, 23) = 8", "calls(4, 23) = 3", "bird(4, 2) = 24")
                .changesNothing("call(4, 22, 1) = false", "call(0, 1, 9) = false");
    }

    private static void entries() {
        sentence(8, "each PERSON that is no farther from its bush than hear, and not deaf, owes");
        Run run = full();
        int[][] pence = {{64, 0, 8, 18, 27}, {0, 0, 0, 0, 0}, {0, 45, 4, 8, 15}, {144, 0, 14, 40, 48}, {88, 0, 9, 16, 18}, {0, 99, 10, 14, 27}};
        int[] whom = {3, -1, 1, 0, 3, 2};
        for (int person = 0; person < 6; person++) {
            for (int bird = 0; bird < 5; bird++) {
                int to = pence[person][bird] > 0 ? whom[person] : -1;
                run.due("entry(" + bird + ", 23, " + person + ", false) = " + pence[person][bird], "entry(" + bird + ", 23, " + person + ", true) = " + to);
            }
        }
    }

    private static void owed() {
        sentence(9, "by the first to the second, all ENTRIES together.");
        Run run = full();
        int[][] owed = {{-1, 0, 0, 1189, 0, 0}, {0, -1, 0, 0, 0, 0}, {0, 651, -1, 0, 0, 0}, {2378, 0, 0, -1, 0, 0}, {0, 0, 0, 736, -1, 465}, {0, 0, 812, 457, 0, -1}};
        int[] balances = {1189, 651, 161, 4, -1201, -804};
        for (int person = 0; person < 6; person++) {
            for (int other = 0; other < 6; other++) {
                run.due("owed(" + person + ", " + other + ") = " + owed[person][other]);
            }
            run.due("balance(" + person + ") = " + balances[person]);
        }
        run.due("netted() = 2005");
    }

    private static void without() {
        sentence(18, "how much more a PERSON's BALANCE would be if a BIRD's calls made nothing");
        Run run = full();
        int[][] more = {{-217, 0, 0, -17, 244, -10}, {0, -128, -57, 0, 0, 185}, {-346, -216, 12, -76, 436, 190}, {-406, -161, -101, 74, 325, 269}, {-220, -146, -15, 15, 196, 170}};
        for (int bird = 0; bird < 5; bird++) {
            for (int person = 0; person < 6; person++) {
                run.due("without(" + bird + ", " + person + ") = " + more[bird][person]);
            }
        }
    }

    private static void stand() {
        sentence(14, "so that its BALANCE of the DAY is greatest");
        Run run = full();
        int[][] stands = {{9, 2841, 9, 1773}, {8, 4760, 8, 1884}, {8, 4169, 8, 1464}, {9, 457, 9, 231}, {8, 1189, 8, -487}, {8, 1189, 8, -291}};
        for (int person = 0; person < 6; person++) {
            run.due("stand(" + person + ", 0, 23, 0) = " + stands[person][0], "stand(" + person + ", 0, 23, 1) = " + stands[person][1],
                    "stand(" + person + ", 20, 23, 0) = " + stands[person][2], "stand(" + person + ", 20, 23, 1) = " + stands[person][3]);
        }
        sentence(15, "2 + k: where PERSON k stands in the first of these hours then");
        int[] day = {11, 0, 8, 24, 32, 39, 5, 7, -1};
        int[] evening = {11, 0, 2, 3, 4, 39, 7, 23, -1};
        for (int what = 0; what < day.length; what++) {
            run.due("played(0, 23, " + what + ") = " + day[what], "played(20, 22, " + what + ") = " + evening[what]);
        }
    }

    private static void picnic() {
        sentence(16, "(1 to all)");
        Run run = full().due("picnic(0, 0, 23, 0) = throws", "picnic(7, 0, 23, 0) = throws");
        int[][] picnics = {{2, 8, 4760}, {34, 8, 4768}, {38, 8, 4768}, {39, 1, 3579}, {55, 0, 2378}, {63, 0, 0}};
        for (int many = 1; many <= 6; many++) {
            for (int what = 0; what < 3; what++) {
                run.due("picnic(" + many + ", 0, 23, " + what + ") = " + picnics[many - 1][what]);
            }
        }
    }

    private static void songs() {
        sentence(20, "each PERSON of whom it is TOLD owes just that");
        // f hears q, r, s and t in hour 23, 2, 9, 5 and 6 from it; p it does not hear: any times do
        Run run = full().due("sang(23) = 7776", "song(23, 7775, 4) = 5", "song(23, 7776, 4) = -1", "told(5, 13) = true", "sang(23) = 12", "song(23, 0, 0) = 0", "song(23, 0, 1) = 0",
                "song(23, 5, 0) = 2", "song(23, 6, 0) = 3", "song(23, 11, 0) = 5", "song(23, 12, 0) = -1", "sang(22) = 18", "told(0, 50) = true", "sang(23) = 0", "told(5, 3) = true",
                "told(0, -1) = true", "sang(23) = 6", "told(1, 0) = true", "sang(23) = 6", "told(1, 1) = true", "sang(23) = 0", "told(1, 0) = true");
        sentence(22, "owes just that in the DAY: how many; the least.");
        run.due("told(5, 1269) = true", "wooden(0) = 1", "wooden(1) = 0", "told(4, 1201) = true", "told(3, 2378) = true", "told(2, 651) = true", "told(0, 1189) = true",
                "count(6) = 6", "wooden(0) = 1", "wooden(1) = 0", "told(0, 969) = true", "wooden(0) = 0", "told(0, 1189) = true", "wooden(0) = 1", "told(5, 1268) = true", "wooden(0) = 0");
    }

    private static void june() {
        sentence(23, "each PERSON, by number, pays of what it owes");
        full().due("june(-1) = 60", "june(0) = 260", "june(1) = 99", "june(2) = 0", "june(3) = 0", "june(4) = 0", "june(5) = 0", "june(6) = -2");
    }

    private static void sixTold() {
        sentence(25, "6: PERSONS of whom it is TOLD, 7: how many can be undone");
        Run run = full().due("count(7) = 20", "shoot(4, true) = true", "count(7) = 20", "count(5) = 1");
        for (int person = 0; person < 6; person++) {
            run.due("told(" + person + ", 0) = true", "count(6) = " + (person + 1));
        }
        run.due("told(6, 0) = false", "count(6) = 6", "wooden(0) = 1", "wooden(1) = 15", "told(5, -1) = true", "count(6) = 5", "mark(3, false) = true", "undo() = true", "count(5) = 0", "count(7) = 19",
                "told(0, -1) = true", "mark(3, true) = true", "count(5) = 1", "count(6) = 5", "count(7) = 0");
    }
}
