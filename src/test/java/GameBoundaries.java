/** Where to stand, play, picnics, what is left when all net out, what a bird cost: promises 14 to 18. */
final class GameBoundaries extends Boundary {
    /** a owes b, who hears nothing, more the farther it is from the bush; at 3 3 it does not hear. */
    private static final String AWAY = "hills 4 4;person a plain at 0 0 purse 0;person b deaf at 3 3 purse 0;go a hour 5 at 1 0;bird k at 0 0;"
            + "call k hour 3 times 1;call k hour 4 times 1;call k hour 5 times 1;call k hour 6 times 1;owe 1+far;hear 5;";
    /** a gains by being near b, b by being away: round and round. */
    private static final String RING = "hills 2 2;person a plain at 0 0 purse 0;person b rich at 1 1 purse 0;bird k at 0 0;call k hour 0 times 1;fog 1;";
    private static final String THREE = "hills 8 2;person a plain at 0 0 purse 10;person b plain at 3 0 purse 2;person c rich at 5 0 purse 0;"
            + "go b hour 9 at 1 0;bird k at 0 0;bird l at 7 1;call k hour 8 times 2;call l hour 8 times 1;call k hour 9 times 1;owe far + 1;";

    private GameBoundaries() {
    }

    static void all() {
        standOfHours();
        firstCell();
        othersAsTheyAre();
        stand();
        onlyIfGreater();
        inOrder();
        rest();
        ring();
        fiftyRounds();
        notDone();
        played();
        picnicOf();
        leastSet();
        picnic();
        netted();
        shot();
        without();
    }

    // ---- promise 14

    private static void standOfHours() {
        sentence(14, "STAND of a PERSON from an hour to another one: the CELL at which it would be in these hours (else as told) so that its BALANCE of the DAY is greatest");
        Run run = run(AWAY).due("balance(0) = -6", "balance(1) = 6");
        // by how much less it owes if it stands out of hearing: 1, 1, 2 and 2 in hours 3 to 6
        int[] owes = {0, 0, 0, 1, 1, 2, 2, 0};
        for (int from = 0; from < 8; from++) {
            for (int to = from; to < 8; to++) {
                int left = -6;
                for (int hour = from; hour <= to; hour++) {
                    left += owes[hour];
                }
                run.due("stand(0, " + from + ", " + to + ", 0) = " + (left > -6 ? 27 : 0), "stand(0, " + from + ", " + to + ", 1) = " + left);
            }
        }
        run.due("stand(0, 0, 23, 0) = 27", "stand(0, 0, 23, 1) = 0", "stand(0, 6, 23, 1) = -4", "stand(0, 7, 23, 1) = -6", "stand(0, 0, 2, 1) = -6",
                "stand(0, 23, 23, 0) = 0", "stand(0, 23, 23, 1) = -6", "stand(0, 0, 0, 0) = 0");
        run.due("call(0, 23, 9) = true", "call(0, 0, 9) = true", "stand(0, 23, 23, 1) = -15", "stand(0, 0, 0, 1) = -24", "stand(0, 0, 23, 1) = 0",
                "shoot(0, true) = true", "stand(0, 3, 4, 0) = 0", "stand(0, 3, 4, 1) = 0");
    }

    private static void firstCell() {
        sentence(14, "of equal ones the first (row by row)");
        // it owes nothing at 1 0 and at 0 1, which are 1 from the bush
        String text = "hills 3 3;person a plain at 2 2 purse 0;person b deaf at 2 0 purse 0;bird k at 0 0;call k hour 0 times 1;owe not ( far = 1 );";
        run(text).due("stand(0, 0, 0, 0) = 1", "stand(0, 0, 0, 1) = 0");
        run(text.replace("plain at 2 2", "plain at 0 1")).due("stand(0, 0, 0, 0) = 1");
        // 2 0 is before 1 1 and 0 2; 2 1 before 1 2
        run(text.replace("far = 1", "far = 2")).due("stand(0, 0, 0, 0) = 2");
        run(text.replace("far = 1", "far = 3")).due("stand(0, 0, 0, 0) = 10");
        run(text.replace("far = 1", "far = 4")).due("stand(0, 0, 0, 0) = 18");
        run(text.replace("far = 1", "far = 5")).due("stand(0, 0, 0, 0) = 0", "stand(0, 0, 0, 1) = -1");
        run(text.replace("far = 1", "far = 0")).due("stand(0, 0, 0, 0) = 0", "stand(0, 0, 0, 1) = 0");
        run(text.replace("hills 3 3", "hills 8 4").replace("far = 1", "far = 7")).due("stand(0, 0, 0, 0) = 7");
        run(text.replace("hills 3 3", "hills 3 8").replace("far = 1", "far = 7")).due("stand(0, 0, 0, 0) = 42");
        run(text.replace("hills 3 3", "hills 8 8").replace("far = 1", "far = 14")).due("stand(0, 0, 0, 0) = 63");
    }

    private static void othersAsTheyAre() {
        sentence(14, "all others as they are.");
        // b is at 0 0, from hour 1 on at 1 1, and sees no farther than its own cell
        String text = "hills 2 2;person a deaf at 1 0 purse 0;person b plain at 0 0 purse 0;go b hour 1 at 1 1;bird k at 0 0;call k hour 0 times 3;call k hour 1 times 4;fog 0;";
        run(text).due("stand(0, 0, 0, 0) = 0", "stand(0, 0, 0, 1) = 3", "stand(0, 1, 1, 0) = 9", "stand(0, 1, 1, 1) = 4", "stand(0, 0, 1, 0) = 9",
                "stand(0, 0, 1, 1) = 4", "stand(1, 0, 1, 0) = 0", "stand(1, 0, 1, 1) = 0", "place(1, 0) = 0", "place(1, 1) = 9");
        run(text.replace("times 3", "times 5")).due("stand(0, 0, 1, 0) = 0", "stand(0, 0, 1, 1) = 5");
        run("hills 2 2;person a plain at 1 1 purse 0;bird k at 0 0;call k hour 0 times 1;").due("stand(0, 0, 0, 0) = 0", "stand(0, 0, 0, 1) = 0");
    }

    private static void stand() {
        sentence(14, "STAND, what 0: the CELL, 1: the BALANCE then.");
        Run run = run(AWAY).due("stand(0, 3, 4, 0) = 27", "stand(0, 3, 4, 1) = -4", "stand(1, 3, 4, 0) = 0", "stand(1, 3, 4, 1) = 6");
        run.changesNothing("stand(0, 3, 4, 0) = 27", "stand(0, 0, 23, 1) = 0", "stand(1, 0, 23, 1) = 6");
        sentence(14, "NoSuchElementException: others.");
        run.changesNothing("stand(-1, 3, 4, 0) = throws", "stand(2, 3, 4, 0) = throws", "stand(6, 3, 4, 0) = throws", "stand(0, -1, 4, 0) = throws",
                "stand(0, 24, 24, 0) = throws", "stand(0, 3, 24, 0) = throws", "stand(0, -1, -1, 0) = throws", "stand(0, 4, 3, 0) = throws",
                "stand(0, 23, 0, 1) = throws", "stand(0, 1, 0, 1) = throws", "stand(0, 3, 4, -1) = throws", "stand(0, 3, 4, 2) = throws");
        for (String stray : new String[] {GREAT, SMALL}) {
            run.due("stand(" + stray + ", 3, 4, 0) = throws", "stand(0, " + stray + ", 4, 0) = throws", "stand(0, 3, " + stray + ", 0) = throws",
                    "stand(0, 3, 4, " + stray + ") = throws");
        }
        run.due("stand(0, 0, 0, 0) = 0", "stand(0, 23, 23, 0) = 0", "stand(0, 0, 23, 0) = 27");
    }

    // ---- promise 15

    /** What is played to the end: rounds, 1 rest or 0 ring, where each stands. */
    private static void ends(Run run, int from, int to, int... ends) {
        for (int what = 0; what < ends.length; what++) {
            run.due("played(" + from + ", " + to + ", " + what + ") = " + ends[what]);
        }
        run.due("played(" + from + ", " + to + ", " + ends.length + ") = -1");
    }

    private static void onlyIfGreater() {
        sentence(15, "takes its STAND in these hours if its BALANCE is greater so than as it is by then");
        // as good as its STAND, the first cell, is where it is: it stays
        ends(run("hills 3 3;person a plain at 2 2 purse 0;person b deaf at 0 2 purse 0;bird k at 2 2;call k hour 0 times 9;owe 5 * ( 3 < far );"), 0, 0, 1, 1, 18, 16);
        ends(run("hills 3 3;person a plain at 2 2 purse 0;person b deaf at 0 2 purse 0;bird k at 0 0;call k hour 0 times 9;owe 5 * ( 4 < far );"), 0, 0, 1, 1, 18, 16);
        // a penny less: it goes to the first cell
        ends(run("hills 3 3;person a plain at 2 2 purse 0;person b deaf at 0 2 purse 0;bird k at 0 0;call k hour 0 times 1;owe 3 < far;"), 0, 0, 2, 1, 0, 16);
        // a walker who owes nothing walks on
        ends(run("hills 3 3;person a plain at 2 2 purse 0;person b deaf at 0 2 purse 0;go a hour 1 at 1 1;bird k at 0 0;call k hour 0 times 1;owe 0;"), 0, 5, 1, 1, 18, 16);
        Run walker = run("hills 3 3;person a plain at 2 2 purse 0;person b deaf at 0 2 purse 0;go a hour 1 at 1 1;bird k at 0 0;call k hour 1 times 1;owe far < 3;");
        ends(walker, 0, 5, 2, 1, 10, 16);
        ends(walker, 1, 1, 2, 1, 10, 16);
        ends(walker, 0, 0, 1, 1, 18, 16);
        ends(walker, 2, 23, 1, 1, 9, 16);
    }

    private static void inOrder() {
        sentence(15, "PLAYED: rounds, in each of which each PERSON, in order");
        // two who owe one another alike stay
        String text = "hills 2 2;person a plain at 1 1 purse 0;person b plain at 1 1 purse 0;bird k at 0 0;call k hour 0 times 1;fog 0;";
        ends(run(text), 0, 0, 1, 1, 9, 9);
        // a rich one flees, the other follows: in the same round if it comes behind it, to 0, to 1 and to 0 again
        ends(run(text.replace("a plain", "a rich")), 0, 0, 3, 0, 0, 0);
        // in the next one if it comes before it: 9 and 0, 0 and 1, 1 and 0, 0 and 1
        ends(run(text.replace("b plain", "b rich")), 0, 0, 4, 0, 0, 1);
    }

    private static void rest() {
        sentence(15, "till none does in a whole round (REST)");
        ends(anew(), 0, 23, 1, 1);
        ends(run("hills 2 2;person a plain at 1 1 purse 0;bird k at 0 0;call k hour 0 times 1;"), 0, 23, 1, 1, 9);
        // each owes by how far it is from the bush: both go there in one round, and rest in the next
        Run run = run("hills 3 3;person a plain at 0 0 purse 0;person b child at 0 1 purse 0;go a hour 4 at 2 2;bird k at 2 1;"
                + "call k hour 2 times 2;call k hour 4 times 2;owe far;");
        ends(run, 2, 2, 2, 1, 10, 10);
        ends(run, 0, 4, 2, 1, 10, 10);
        ends(run, 3, 3, 1, 1, 0, 8);
        ends(run, 5, 23, 1, 1, 18, 8);
        // only the second one goes: a whole round in which none does must still come
        ends(run("hills 3 3;person a plain at 2 1 purse 0;person b plain at 0 1 purse 0;bird k at 2 1;call k hour 2 times 2;owe far;"), 2, 2, 2, 1, 10, 10);
    }

    private static void ring() {
        sentence(15, "or behind a round all are in the same CELLS in these hours as behind an earlier one or at the beginning");
        ends(run(RING), 0, 0, 2, 0, 0, 9);
        ends(run(RING), 0, 23, 2, 0, 0, 9);
        Run both = run(RING);
        ends(both, 1, 23, 1, 1, 0, 9);
        ends(both, 0, 0, 2, 0, 0, 9);
        // from elsewhere: the beginning never comes back, what was behind the first round does
        ends(run(RING.replace("rich at 1 1", "rich at 0 0")), 0, 0, 3, 0, 0, 9);
        // b walked at the beginning: to stand still where it set out from is not the same
        Run walk = run(RING + "go b hour 1 at 0 1;go b hour 2 at 1 1;");
        ends(walk, 0, 0, 2, 0, 0, 9);
        ends(walk, 0, 1, 3, 0, 1, 8);
        ends(walk, 0, 23, 3, 0, 1, 8);
        // a walked, b goes and comes: what is behind the rounds is alike but for the first
        ends(run("hills 2 2;person a deaf at 0 0 purse 0;person b plain at 0 1 purse 0;go b hour 1 at 1 1;bird k at 0 0;call k hour 0 times 1;owe far * 3 + near;"),
                0, 1, 3, 1, 9, 0);
    }

    private static void fiftyRounds() {
        sentence(15, "or 50 rounds are over (RING).");
        // none goes in the 49th, and in the 50th
        ends(run("hills 5 6;person a plain at 3 3 purse 0;person b rich at 1 5 purse 0;person c rich at 4 4 purse 0;person d plain at 3 1 purse 0;"
                + "person e shy at 4 5 purse 0;person f child at 1 4 purse 0;bird p at 1 2;bird q at 2 3;bird r at 2 2;bird s at 2 0;call p hour 1 times 9;"
                + "call q hour 0 times 4;call r hour 1 times 3;call s hour 0 times 8;owe 3+near-far;fog 2;hear 3;"), 0, 1, 49, 1, 0, 44, 12, 0, 12, 12);
        ends(run("hills 3 5;person a shy at 2 1 purse 0;person b rich at 2 2 purse 0;person c plain at 1 2 purse 0;person d shy at 2 3 purse 0;"
                + "person e rich at 0 2 purse 0;person f child at 0 2 purse 0;bird p at 1 1;call p hour 0 times 3;owe 3+near-far;fog 2;hear 6;"), 0, 1, 50, 1, 0, 34, 0, 26, 26, 34);
        // none would go in a 51st
        ends(run("hills 2 5;person a plain at 1 4 purse 0;person b shy at 1 2 purse 0;person c plain at 1 3 purse 0;person d plain at 1 2 purse 0;"
                + "person e shy at 0 0 purse 0;person f child at 0 2 purse 0;bird p at 0 0;bird q at 1 3;bird r at 1 0;call p hour 0 times 4;"
                + "call q hour 0 times 2;call r hour 1 times 6;owe far+near;fog 4;hear 4;"), 0, 1, 50, 0, 17, 16, 16, 17, 17, 17);
        // all are where they were behind an earlier one in the 49th, in the 50th, and would be in a 51st
        ends(run("hills 5 2;person a child at 1 0 purse 0;person b shy at 1 0 purse 0;person c rich at 3 1 purse 0;person d deaf at 3 0 purse 0;"
                + "person e rich at 3 1 purse 0;person f plain at 4 1 purse 0;bird p at 4 0;bird q at 3 1;call p hour 1 times 9;call q hour 0 times 1;"
                + "owe 10-near;fog 2;hear 9;"), 0, 1, 49, 0, 0, 3, 3, 0, 9, 9);
        ends(run("hills 5 2;person a plain at 1 1 purse 0;person b rich at 0 1 purse 0;person c shy at 4 0 purse 0;person d deaf at 1 1 purse 0;"
                + "person e child at 0 1 purse 0;person f child at 0 0 purse 0;bird p at 0 0;bird q at 4 0;call p hour 1 times 4;call q hour 1 times 2;"
                + "owe 9-near-far;fog 1;hear 6;"), 0, 1, 50, 0, 9, 12, 11, 12, 8, 9);
        ends(run("hills 2 5;person a plain at 0 3 purse 0;person b rich at 1 2 purse 0;person c plain at 0 4 purse 0;person d shy at 0 3 purse 0;"
                + "person e deaf at 1 2 purse 0;person f deaf at 0 0 purse 0;bird p at 0 4;bird q at 0 4;call p hour 0 times 4;call q hour 0 times 9;"
                + "owe 10-near;fog 2;hear 7;"), 0, 1, 50, 0, 32, 9, 1, 9, 1, 32);
    }

    private static void notDone() {
        sentence(15, "It is not done, but told.");
        run(RING).changesNothing("played(0, 0, 0) = 2", "played(0, 0, 1) = 0", "played(0, 23, 2) = 0");
        Run run = run("hills 3 3;person a plain at 0 0 purse 0;person b child at 0 1 purse 0;bird k at 2 1;call k hour 2 times 2;owe far;");
        run.changesNothing("played(2, 2, 0) = 2", "played(2, 2, 2) = 10", "stand(0, 2, 2, 0) = 10", "picnic(2, 2, 2, 1) = 0");
        run.due("played(2, 2, 3) = 10", "place(0, 2) = 0", "place(1, 2) = 8", "balance(0) = -4", "played(2, 2, 0) = 2", "entry(0, 2, 0, false) = 6");
    }

    private static void played() {
        sentence(15, "PLAYED, what 0: rounds (with the last one), 1: 1 REST, 0 RING, 2 + k: where PERSON k stands in the first of these hours then");
        ends(run(AWAY), 3, 6, 2, 1, 27, 27);
        // in hours in which a, who walks in hour 5, need not go anywhere else
        Run run = run(AWAY).first("call(0, 3, 0)", "call(0, 4, 0)", "call(0, 5, 0)", "call(0, 6, 0)");
        ends(run, 4, 5, 1, 1, 0, 27);
        ends(run, 5, 6, 1, 1, 1, 27);
        ends(run, 0, 23, 1, 1, 0, 27);
        ends(run, 23, 23, 1, 1, 1, 27);
        StringBuilder six = new StringBuilder("hills 8 2;");
        for (int i = 0; i < 6; i++) {
            six.append("person ").append((char) ('a' + i)).append(" plain at ").append(i).append(" 1 purse 0;");
        }
        ends(run(six.toString()), 0, 23, 1, 1, 8, 9, 10, 11, 12, 13);
        sentence(15, "NONE: others.");
        run.changesNothing("played(-1, 5, 0) = -1", "played(0, 24, 0) = -1", "played(24, 24, 0) = -1", "played(-1, -1, 0) = -1", "played(5, 4, 0) = -1",
                "played(23, 0, 1) = -1", "played(0, 5, -1) = -1", "played(0, 5, 4) = -1", "played(0, 5, 7) = -1", "played(0, 5, 8) = -1");
        for (String stray : new String[] {GREAT, SMALL}) {
            run.due("played(" + stray + ", 5, 0) = -1", "played(0, " + stray + ", 0) = -1", "played(0, 5, " + stray + ") = -1");
        }
        anew().due("played(0, 0, 0) = 1", "played(0, 0, 2) = -1", "played(1, 0, 0) = -1");
    }

    // ---- promise 16

    private static void picnic(Run run, int many, int from, int to, int... ends) {
        for (int what = 0; what < 3; what++) {
            run.due("picnic(" + many + ", " + from + ", " + to + ", " + what + ") = " + ends[what]);
        }
    }

    private static void picnicOf() {
        sentence(16, "PICNIC: so many PERSONS at one CELL from an hour to another one: the set (bits) and the CELL by which the sum of their BALANCES is greatest");
        // nobody sees farther than 1, or hears farther than 3: as told b owes c 1 in each of two hours
        Run run = run("hills 4 2;person a plain at 0 0 purse 0;person b plain at 3 0 purse 0;person c rich at 3 1 purse 0;"
                + "bird k at 0 0;call k hour 6 times 1;call k hour 9 times 1;fog 1;hear 3;").due("balance(1) = -2", "balance(2) = 2");
        picnic(run, 1, 6, 6, 4, 11, 2);
        picnic(run, 2, 6, 6, 5, 2, 2);
        picnic(run, 3, 6, 6, 7, 0, 0);
        // outside these hours all are as told: of the day's sum 1 is left to c
        picnic(run, 1, 0, 5, 4, 0, 2);
        picnic(run, 1, 10, 23, 4, 0, 2);
        picnic(run, 3, 0, 23, 7, 0, 0);
        // what they owe one another is in both their balances: it is nothing to the sum
        picnic(run(THREE), 3, 0, 23, 7, 0, 0);
    }

    private static void leastSet() {
        sentence(16, "of equal ones the least set, then the first CELL.");
        Run quiet = run("hills 3 2;person a plain at 2 1 purse 0;person b plain at 1 1 purse 0;person c plain at 0 1 purse 0;person d plain at 0 0 purse 0;");
        picnic(quiet, 1, 0, 23, 1, 0, 0);
        picnic(quiet, 2, 5, 6, 3, 0, 0);
        picnic(quiet, 3, 23, 23, 7, 0, 0);
        picnic(quiet, 4, 0, 0, 15, 0, 0);
        // a has 2 at 1 0, from b and c less what it owes, and so has c, at the cell before that; a and b, or b and c, have no more
        Run run = run("hills 3 2;person a plain at 0 1 purse 0;person b plain at 1 0 purse 0;person c shy at 2 1 purse 0;bird k at 0 0;call k hour 0 times 2;");
        run.due("stand(0, 0, 0, 0) = 1", "stand(0, 0, 0, 1) = 2", "stand(2, 0, 0, 0) = 0", "stand(2, 0, 0, 1) = 2");
        picnic(run, 1, 0, 0, 1, 1, 2);
        picnic(run, 2, 0, 0, 3, 1, 2);
        Run shy = run("hills 3 2;person a shy at 0 0 purse 0;person b shy at 2 1 purse 0;person c shy at 1 1 purse 0;bird k at 1 0;call k hour 0 times 2;");
        shy.due("stand(0, 0, 0, 0) = 9", "stand(2, 0, 0, 0) = 1", "stand(2, 0, 0, 1) = 2");
        picnic(shy, 1, 0, 0, 1, 9, 2);
        Run deaf = run("hills 2 2;person a plain at 1 0 purse 0;person b plain at 1 1 purse 0;person c deaf at 0 1 purse 0;bird k at 0 1;call k hour 0 times 2;owe times;fog 1;");
        picnic(deaf, 2, 0, 0, 5, 1, 4);
    }

    private static void picnic() {
        sentence(16, "PICNIC of so many (1 to all), what 0: the set, 1: the CELL, 2: the sum.");
        Run run = run(AWAY);
        picnic(run, 1, 3, 6, 2, 0, 6);
        picnic(run, 2, 3, 6, 3, 0, 0);
        run.changesNothing("picnic(1, 0, 23, 0) = 2", "picnic(2, 0, 23, 2) = 0");
        run("hills 2 2;person a plain at 1 1 purse 0;").due("picnic(1, 0, 23, 0) = 1", "picnic(1, 0, 23, 1) = 0", "picnic(1, 0, 23, 2) = 0", "picnic(2, 0, 23, 0) = throws");
        sentence(16, "NoSuchElementException: others.");
        run.changesNothing("picnic(0, 3, 4, 0) = throws", "picnic(-1, 3, 4, 0) = throws", "picnic(3, 3, 4, 0) = throws", "picnic(6, 3, 4, 0) = throws",
                "picnic(1, -1, 4, 0) = throws", "picnic(1, 3, 24, 0) = throws", "picnic(1, 24, 24, 0) = throws", "picnic(1, -1, -1, 0) = throws",
                "picnic(1, 4, 3, 0) = throws", "picnic(2, 23, 0, 1) = throws", "picnic(1, 3, 4, -1) = throws", "picnic(1, 3, 4, 3) = throws");
        for (String stray : new String[] {GREAT, SMALL}) {
            run.due("picnic(" + stray + ", 3, 4, 0) = throws", "picnic(1, " + stray + ", 4, 0) = throws", "picnic(1, 3, " + stray + ", 0) = throws",
                    "picnic(1, 3, 4, " + stray + ") = throws");
        }
        anew().due("picnic(0, 0, 0, 0) = throws", "picnic(1, 0, 0, 0) = throws");
    }

    // ---- promises 17 and 18

    private static void netted() {
        sentence(17, "NETTED: pence that change hands at least if all settle (the sum of what PERSONS are owed on balance).");
        run(THREE).due("netted() = 40", "shoot(0, true) = true", "netted() = 11", "shoot(1, true) = true", "netted() = 0");
        anew().due("netted() = 0");
        // as much to as from each: nothing is left
        run("hills 2 2;person a plain at 0 0 purse 0;person b plain at 0 0 purse 0;bird k at 0 0;call k hour 0 times 9;owe 99;").due("owed(0, 1) = 891", "netted() = 0");
        // in a ring a owes b, b c and c a
        run("hills 4 2;person a plain at 0 0 purse 0;person b plain at 1 0 purse 0;person c plain at 3 0 purse 0;go a hour 1 at 3 1;go c hour 2 at 3 1;"
                + "go b hour 2 at 0 0;go a hour 2 at 3 0;bird k at 0 0;bird l at 3 1;call k hour 0 times 1;call l hour 1 times 1;hear 1;")
                .due("netted() = 0");
        // two are owed on balance, and two owe
        run("hills 8 8;person a deaf at 0 0 purse 0;person b plain at 1 0 purse 0;person c rich at 7 7 purse 0;person d deaf at 7 6 purse 0;bird k at 0 0;call k hour 0 times 5;")
                .due("balance(0) = 5", "balance(1) = -5", "balance(2) = -10", "balance(3) = 10", "netted() = 15");
        sentence(17, "NETTED.");
        run(THREE).changesNothing("netted() = 40");
    }

    private static void shot() {
        sentence(18, "SHOT: how much more a PERSON's BALANCE would be if a BIRD's calls made nothing (below 0: less).");
        run(THREE).due("without(0, 0) = 1", "without(0, 1) = -29", "without(0, 2) = 28", "without(1, 0) = 9", "without(1, 1) = -11", "without(1, 2) = 2");
        run(THREE + "bird m at 0 1;").due("without(2, 0) = 0", "without(2, 1) = 0");
        run(THREE).due("balance(1) = 40", "shoot(0, true) = true", "balance(1) = 11", "without(1, 1) = -11", "without(1, 0) = 9");
    }

    private static void without() {
        sentence(18, "What a BIRD that was SHOT would do to a PERSON.");
        Run run = run(THREE);
        run.changesNothing("without(0, 1) = -29", "without(1, 2) = 2");
        sentence(18, "NoSuchElementException: others, it is SHOT.");
        run.changesNothing("without(-1, 0) = throws", "without(2, 0) = throws", "without(5, 0) = throws", "without(0, -1) = throws", "without(0, 3) = throws",
                "without(0, 6) = throws", "without(-1, -1) = throws");
        for (String stray : new String[] {GREAT, SMALL}) {
            run.due("without(" + stray + ", 0) = throws", "without(0, " + stray + ") = throws");
        }
        sentence(18, "it is SHOT");
        run.due("shoot(1, true) = true").changesNothing("without(1, 0) = throws", "without(1, 2) = throws", "without(0, 1) = -29");
        run.due("shoot(1, false) = true", "without(1, 0) = 9", "shoot(0, true) = true", "without(0, 0) = throws", "undo() = true", "without(0, 0) = 1");
    }
}
