/** People, birds, who owes whom, and what is done by hand: promises 4 to 13. */
final class DebtBoundaries extends Boundary {
    /** a, b and c in a row, two birds; b goes to c's far side in hour 9. */
    private static final String THREE = "hills 8 2;person a plain at 0 0 purse 10;person b plain at 3 0 purse 2;person c rich at 5 0 purse 0;"
            + "go b hour 9 at 1 0;bird k at 0 0;bird l at 7 1;call k hour 8 times 2;call l hour 8 times 1;call k hour 9 times 1;owe far + 1;";
    /** One pair of people and a bird that does not call yet. */
    private static final String PAIR = "hills 2 2;person a plain at 0 0 purse 0;person b deaf at 0 0 purse 0;bird k at 0 0;";

    private DebtBoundaries() {
    }

    static void all() {
        person();
        place();
        bird();
        calls();
        debts();
        entry();
        entryOthers();
        owed();
        balance();
        byHand();
        call();
        shoot();
        undo();
    }

    private static void debts() {
        far();
        hear();
        deaf();
        nearest();
        fogLimits();
        leastOfEqualOnes();
        nobodyThere();
        pence();
        child();
        rich();
        shy();
        entryOfEach();
        day();
        owedTogether();
        balanceOf();
    }

    // ---- promises 4 to 7

    private static void person() {
        sentence(4, "Of a PERSON, what 0: its KIND (0 plain, 1 deaf, 2 child, 3 rich, 4 shy), 1: purse");
        Run run = run("hills 2 2;person a plain at 0 0 purse 0;person b deaf at 0 0 purse 1;person c child at 0 0 purse 22;"
                + "person d rich at 0 0 purse 333;person e shy at 0 0 purse 9999;person f plain at 0 0 purse 9998;");
        run.due("person(0, 0) = 0", "person(1, 0) = 1", "person(2, 0) = 2", "person(3, 0) = 3", "person(4, 0) = 4", "person(5, 0) = 0");
        run.due("person(0, 1) = 0", "person(1, 1) = 1", "person(2, 1) = 22", "person(3, 1) = 333", "person(4, 1) = 9999", "person(5, 1) = 9998");
        sentence(4, "NONE: others.");
        run.changesNothing("person(-1, 0) = -1", "person(-1, 1) = -1", "person(6, 0) = -1", "person(6, 1) = -1", "person(0, -1) = -1",
                "person(0, 2) = -1", "person(5, 2) = -1", "person(" + GREAT + ", 0) = -1", "person(" + SMALL + ", 0) = -1",
                "person(0, " + GREAT + ") = -1", "person(0, " + SMALL + ") = -1", "person(-1, -1) = -1");
        run(THREE).due("person(2, 0) = 3", "person(3, 0) = -1", "person(3, 1) = -1", "person(5, 0) = -1");
        run(PAIR).due("person(1, 0) = 1", "person(2, 0) = -1", "person(2, 1) = -1");
    }

    private static void place() {
        sentence(5, "Where a PERSON is in an hour, as y * 8 + x");
        Run run = run("hills 8 7;person a plain at 7 0 purse 0;person b plain at 0 6 purse 0;go b hour 1 at 1 5;go b hour 23 at 7 6;go a hour 12 at 3 2;");
        run.due("place(0, 0) = 7", "place(0, 11) = 7", "place(0, 12) = 19", "place(0, 13) = 19", "place(0, 23) = 19");
        run.due("place(1, 0) = 48", "place(1, 1) = 41", "place(1, 2) = 41", "place(1, 22) = 41", "place(1, 23) = 55");
        run("hills 2 2;person a plain at 1 1 purse 0;").due("place(0, 0) = 9");
        sentence(5, "NONE: others.");
        run.changesNothing("place(-1, 0) = -1", "place(2, 0) = -1", "place(5, 0) = -1", "place(6, 0) = -1", "place(0, -1) = -1",
                "place(0, 24) = -1", "place(1, 24) = -1", "place(1, -1) = -1", "place(-1, 24) = -1", "place(" + GREAT + ", 0) = -1",
                "place(" + SMALL + ", 0) = -1", "place(0, " + GREAT + ") = -1", "place(0, " + SMALL + ") = -1");
    }

    private static void bird() {
        sentence(6, "Of a BIRD, what 0: its CELL as y * 8 + x, 1: 1 if it is SHOT, 2: calls (all times of the day)");
        Run run = run("hills 8 7;bird a at 7 0;bird b at 0 6;bird c at 7 6;bird d at 0 0;bird e at 1 1;"
                + "call a hour 0 times 9;call a hour 23 times 8;call b hour 1 times 1;");
        run.due("bird(0, 0) = 7", "bird(1, 0) = 48", "bird(2, 0) = 55", "bird(3, 0) = 0", "bird(4, 0) = 9");
        run.due("bird(0, 2) = 17", "bird(1, 2) = 1", "bird(2, 2) = 0", "bird(4, 2) = 0", "bird(0, 1) = 0", "bird(4, 1) = 0");
        run.due("shoot(4, true) = true", "bird(4, 1) = 1", "bird(3, 1) = 0", "bird(0, 1) = 0", "shoot(0, true) = true", "bird(0, 1) = 1",
                "bird(0, 2) = 17", "bird(0, 0) = 7", "call(0, 5, 9) = true", "bird(0, 2) = 26", "call(0, 0, 0) = true", "bird(0, 2) = 17");
        Run all = run(PAIR);
        for (int hour = 0; hour < 24; hour++) {
            all.due("call(0, " + hour + ", 9) = true", "bird(0, 2) = " + (9 * hour + 9));
        }
        sentence(6, "NONE: others.");
        run.changesNothing("bird(-1, 0) = -1", "bird(5, 0) = -1", "bird(5, 1) = -1", "bird(5, 2) = -1", "bird(-1, 1) = -1", "bird(-1, 2) = -1",
                "bird(0, -1) = -1", "bird(0, 3) = -1", "bird(4, 3) = -1", "bird(" + GREAT + ", 0) = -1", "bird(" + SMALL + ", 1) = -1",
                "bird(0, " + GREAT + ") = -1", "bird(0, " + SMALL + ") = -1");
        run(THREE).due("bird(1, 0) = 15", "bird(2, 0) = -1", "bird(2, 1) = -1", "bird(2, 2) = -1", "bird(4, 1) = -1");
    }

    private static void calls() {
        sentence(7, "How often a BIRD calls in an hour");
        Run run = run("hills 2 2;bird a at 0 0;bird b at 0 0;call a hour 0 times 1;call a hour 23 times 9;call b hour 0 times 8;");
        run.due("calls(0, 0) = 1", "calls(0, 1) = 0", "calls(0, 22) = 0", "calls(0, 23) = 9", "calls(1, 0) = 8", "calls(1, 23) = 0");
        run.due("shoot(1, true) = true", "calls(1, 0) = 8", "call(1, 0, 0) = true", "calls(1, 0) = 0", "calls(0, 0) = 1");
        sentence(7, "NONE: others.");
        run.changesNothing("calls(-1, 0) = -1", "calls(2, 0) = -1", "calls(4, 0) = -1", "calls(5, 0) = -1", "calls(0, -1) = -1",
                "calls(0, 24) = -1", "calls(1, -1) = -1", "calls(1, 24) = -1", "calls(" + GREAT + ", 0) = -1", "calls(" + SMALL + ", 0) = -1",
                "calls(0, " + GREAT + ") = -1", "calls(0, " + SMALL + ") = -1");
    }

    // ---- who owes whom

    private static void far() {
        sentence(8, "FAR of two CELLS: |x - x| + |y - y|.");
        int[][] cells = {{0, 0}, {7, 7}, {0, 7}, {7, 0}, {3, 4}, {4, 3}, {1, 0}, {0, 1}};
        for (int[] one : cells) {
            for (int[] other : cells) {
                int far = Math.abs(one[0] - other[0]) + Math.abs(one[1] - other[1]);
                run("hills 8 8;person a plain at " + one[0] + " " + one[1] + " purse 0;person b deaf at " + other[0] + " " + other[1]
                        + " purse 0;bird k at " + other[0] + " " + other[1] + ";call k hour 0 times 1;owe far * 5 + near;").due("entry(0, 0, 0, false) = " + far * 6);
            }
        }
    }

    /** Whom a owes, who stands so far from the bush, b beside it. */
    private static void hears(String hear, int away, int whom) {
        int x = Math.min(away, 7);
        String cell = x + " " + (away - x);
        run("hills 8 8;person a plain at " + cell + " purse 0;person b deaf at " + cell + " purse 0;bird k at 0 0;call k hour 0 times 1;" + hear)
                .due("entry(0, 0, 0, true) = " + whom, "entry(0, 0, 0, false) = " + (whom < 0 ? 0 : 1), "owed(0, 1) = " + (whom < 0 ? 0 : 1));
    }

    private static void hear() {
        sentence(8, "In an hour with calls of a BIRD each PERSON that is no farther from its bush than hear");
        for (int hear = 0; hear <= 14; hear++) {
            for (int away = Math.max(0, hear - 1); away <= Math.min(14, hear + 1); away++) {
                hears("hear " + hear + ";", away, away <= hear ? 1 : -1);
            }
        }
        hears("", 14, 1);
        // in an hour without calls of that one nobody owes, whoever else calls
        run(PAIR + "bird l at 1 1;call k hour 5 times 1;call l hour 6 times 1;").due("entry(0, 4, 0, true) = -1", "entry(0, 5, 0, true) = 1",
                "entry(0, 6, 0, true) = -1", "entry(0, 6, 0, false) = 0", "entry(1, 5, 0, true) = -1", "entry(1, 6, 0, true) = 1", "owed(0, 1) = 2");
    }

    private static void deaf() {
        sentence(8, "and not deaf, owes");
        run("hills 2 2;person a deaf at 0 0 purse 0;person b plain at 0 0 purse 0;bird k at 0 0;call k hour 0 times 1;")
                .due("entry(0, 0, 0, true) = -1", "entry(0, 0, 0, false) = 0", "entry(0, 0, 1, true) = 0", "entry(0, 0, 1, false) = 1",
                        "owed(0, 1) = 0", "owed(1, 0) = 1", "balance(0) = 1", "balance(1) = -1");
        run("hills 2 2;person a deaf at 0 0 purse 0;person b deaf at 0 0 purse 0;bird k at 0 0;call k hour 0 times 1;")
                .due("entry(0, 0, 0, true) = -1", "entry(0, 0, 1, true) = -1", "netted() = 0");
    }

    /** a at one end of a row, another so far from it. */
    private static Run row(int away, String fog) {
        int x = Math.min(away, 7);
        return run("hills 8 8;person a plain at 0 0 purse 0;person b deaf at " + x + " " + (away - x) + " purse 0;bird k at 0 0;call k hour 0 times 1;" + fog);
    }

    private static void nearest() {
        sentence(8, "to whoever is NEAREST of all others that are no farther from it than the E of fog");
        for (int fog = 0; fog <= 14; fog++) {
            for (int away = Math.max(0, fog - 1); away <= Math.min(14, fog + 1); away++) {
                row(away, "fog " + fog + ";").due("entry(0, 0, 0, true) = " + (away <= fog ? 1 : -1), "entry(0, 0, 0, false) = " + (away <= fog ? 1 : 0));
            }
        }
        // the nearest, wherever it is in the order; how far it is from the bush is nothing to it
        run("hills 8 8;person a plain at 0 0 purse 0;person b plain at 5 0 purse 0;person c plain at 4 0 purse 0;person d plain at 4 1 purse 0;"
                + "bird k at 5 0;call k hour 0 times 1;fog 4;").due("entry(0, 0, 0, true) = 2", "entry(0, 0, 1, true) = 2", "entry(0, 0, 2, true) = 1", "entry(0, 0, 3, true) = 2");
        run("hills 8 8;person a plain at 0 0 purse 0;person b plain at 5 0 purse 0;person c plain at 4 0 purse 0;person d plain at 3 0 purse 0;"
                + "bird k at 5 0;call k hour 0 times 1;fog 3;").due("entry(0, 0, 0, true) = 3", "entry(0, 0, 3, true) = 2");
        // each looks through its own fog
        run("hills 8 8;person a plain at 2 0 purse 0;person b plain at 5 0 purse 0;bird k at 0 0;call k hour 0 times 1;fog x;")
                .due("entry(0, 0, 0, true) = -1", "entry(0, 0, 1, true) = 0");
    }

    private static void fogLimits() {
        sentence(8, "(0 if it is below, 14 above)");
        for (String fog : new String[] {"0 - 1", "0 - 9999", "0", "2048 * 1024 * 1024"}) {
            row(0, "fog " + fog + ";").due("entry(0, 0, 0, true) = 1");
            row(1, "fog " + fog + ";").due("entry(0, 0, 0, true) = -1");
        }
        for (String fog : new String[] {"14", "15", "9999", "2048 * 1024 * 1024 - 1"}) {
            row(14, "fog " + fog + ";").due("entry(0, 0, 0, true) = 1");
        }
        row(13, "fog 13;").due("entry(0, 0, 0, true) = 1");
        row(14, "fog 13;").due("entry(0, 0, 0, true) = -1");
    }

    private static void leastOfEqualOnes() {
        sentence(8, "of equal ones the least");
        String text = "hills 8 8;person a plain at 3 3 purse 0;person b plain at 3 5 purse 0;person c plain at 5 3 purse 0;"
                + "person d plain at 3 1 purse 0;person e plain at 1 3 purse 0;person f plain at 3 3 purse 0;bird k at 0 0;call k hour 0 times 1;go f hour 1 at 7 7;call k hour 1 times 1;";
        run(text).due("entry(0, 0, 0, true) = 5", "entry(0, 0, 5, true) = 0", "entry(0, 0, 1, true) = 0", "entry(0, 0, 4, true) = 0",
                "entry(0, 1, 0, true) = 1", "entry(0, 1, 1, true) = 0", "entry(0, 1, 5, true) = 1");
        run(text.replace("b plain at 3 5", "b plain at 3 6")).due("entry(0, 1, 0, true) = 2", "entry(0, 1, 1, true) = 0", "entry(0, 1, 5, true) = 1");
        run(text.replace("b plain at 3 5", "b plain at 3 4")).due("entry(0, 1, 0, true) = 1", "entry(0, 1, 2, true) = 0");
        StringBuilder all = new StringBuilder("hills 2 2;bird k at 0 0;call k hour 0 times 1;");
        for (int i = 0; i < 6; i++) {
            all.append("person ").append((char) ('a' + i)).append(" plain at 1 1 purse 0;");
        }
        Run together = run(all.toString()).due("entry(0, 0, 0, true) = 1");
        for (int i = 1; i < 6; i++) {
            together.due("entry(0, 0, " + i + ", true) = 0");
        }
    }

    private static void nobodyThere() {
        sentence(8, "Nobody there: nothing.");
        run("hills 2 2;person a plain at 0 0 purse 4;bird k at 0 0;call k hour 0 times 9;owe 9;")
                .due("entry(0, 0, 0, true) = -1", "entry(0, 0, 0, false) = 0", "balance(0) = 0", "netted() = 0", "june(-1) = 0", "june(0) = 4");
        run("hills 8 8;person a plain at 0 0 purse 0;person b plain at 0 1 purse 0;person c plain at 2 2 purse 0;bird k at 0 0;call k hour 0 times 9;owe 9;fog 1;")
                .due("entry(0, 0, 0, true) = 1", "entry(0, 0, 2, true) = -1", "entry(0, 0, 2, false) = 0", "owed(2, 1) = 0", "balance(2) = 0");
    }

    /** What one owes who is of a kind, so far from the other, by so many calls. */
    private static void pence(String kind, int away, String owe, int times, int want) {
        run("hills 8 2;person a " + kind + " at 0 0 purse 0;person b deaf at " + away + " 0 purse 0;bird k at 0 0;call k hour 0 times " + times
                + ";owe " + owe + ";").due("entry(0, 0, 0, false) = " + want, "entry(0, 0, 0, true) = 1", "owed(0, 1) = " + want);
    }

    private static void pence() {
        sentence(8, "PENCE: the E of owe (0 if it is below, 99 if above) times the times");
        String[] laws = {"0 - 9999", "0 - 2", "0 - 1", "0", "1", "2", "98", "99", "100", "101", "9999", "2048 * 1024 * 1024", "2048 * 1024 * 1024 - 1"};
        int[] rates = {0, 0, 0, 0, 1, 2, 98, 99, 99, 99, 99, 0, 99};
        for (int i = 0; i < laws.length; i++) {
            for (int times : new int[] {1, 2, 9}) {
                pence("plain", 1, laws[i], times, rates[i] * times);
            }
        }
        // it is cut before it is taken times the times, and the law may ask for these
        pence("plain", 1, "times * 12", 8, 96 * 8);
        pence("plain", 1, "times * 12", 9, 99 * 9);
        pence("plain", 1, "times - 5", 4, 0);
        pence("plain", 1, "times - 5", 6, 6);
    }

    private static void child() {
        sentence(8, "of a child half of that, cut");
        pence("child", 1, "0", 1, 0);
        pence("child", 1, "1", 1, 0);
        pence("child", 1, "1", 2, 1);
        pence("child", 1, "1", 3, 1);
        pence("child", 1, "3", 3, 4);
        pence("child", 1, "99", 9, 445);
        pence("child", 1, "200", 9, 445);
        // each ENTRY is cut, not the sum of them
        run("hills 2 2;person a child at 0 0 purse 0;person b deaf at 0 0 purse 0;bird k at 0 0;bird l at 0 0;call k hour 0 times 1;"
                + "call k hour 1 times 3;call l hour 0 times 1;").due("owed(0, 1) = 1", "balance(1) = 1");
    }

    private static void rich() {
        sentence(8, "of a rich one twice that");
        pence("rich", 1, "0", 9, 0);
        pence("rich", 1, "1", 1, 2);
        pence("rich", 1, "50", 1, 100);
        pence("rich", 1, "99", 9, 1782);
        pence("rich", 1, "100", 9, 1782);
        pence("rich", 1, "0 - 1", 9, 0);
    }

    private static void shy() {
        sentence(8, "of a shy one 0 if the NEAREST is 3 or more away.");
        int[] wants = {10, 10, 10, 0, 0, 0, 0, 0};
        for (int away = 0; away < 8; away++) {
            pence("shy", away, "5", 2, wants[away]);
            pence("plain", away, "5", 2, 10);
        }
        // the one whom it owes, not the bush
        run("hills 8 2;person a shy at 7 0 purse 0;person b shy at 5 0 purse 0;person c shy at 2 0 purse 0;bird k at 0 0;call k hour 0 times 1;")
                .due("entry(0, 0, 0, false) = 1", "entry(0, 0, 1, false) = 1", "entry(0, 0, 2, false) = 0", "entry(0, 0, 2, true) = 1");
    }

    private static void entryOfEach() {
        sentence(8, "That is an ENTRY of a BIRD, an hour, a debtor.");
        run(THREE).due("entry(0, 8, 0, false) = 2", "entry(0, 8, 1, false) = 8", "entry(0, 8, 2, false) = 24", "entry(1, 8, 0, false) = 9",
                "entry(1, 8, 1, false) = 6", "entry(1, 8, 2, false) = 8", "entry(0, 9, 0, false) = 1", "entry(0, 9, 1, false) = 2",
                "entry(0, 9, 2, false) = 12", "entry(1, 9, 0, false) = 0", "entry(0, 7, 0, false) = 0", "entry(0, 10, 0, false) = 0");
        run(THREE).due("entry(0, 8, 1, true) = 2", "entry(0, 9, 1, true) = 0", "entry(0, 8, 2, true) = 1", "entry(0, 9, 2, true) = 1");
    }

    private static void day() {
        sentence(9, "A DAY are all hours.");
        Run run = run(PAIR);
        for (int hour = 0; hour < 24; hour++) {
            run.due("call(0, " + hour + ", 1) = true", "owed(0, 1) = " + (hour + 1), "balance(1) = " + (hour + 1));
        }
        run(PAIR + "call k hour 0 times 1;call k hour 23 times 2;").due("owed(0, 1) = 3", "balance(0) = -3", "netted() = 3");
    }

    private static void owedTogether() {
        sentence(9, "OWED by two PERSONS: by the first to the second, all ENTRIES together.");
        run(THREE).due("owed(0, 1) = 12", "owed(1, 0) = 2", "owed(0, 2) = 0", "owed(2, 0) = 0", "owed(1, 2) = 14", "owed(2, 1) = 44");
        // as much as can be: 30 calls, 9 times each, of 99 pence, of a rich one
        StringBuilder text = new StringBuilder("hills 2 2;person a rich at 0 0 purse 0;person b deaf at 0 0 purse 0;bird k at 0 0;bird l at 0 0;owe 99;");
        for (int i = 0; i < 30; i++) {
            text.append("call ").append((char) ('k' + i / 24)).append(" hour ").append(i % 24).append(" times 9;");
        }
        run(text.toString()).due("owed(0, 1) = 53460", "balance(0) = -53460", "balance(1) = 53460", "netted() = 53460", "without(1, 0) = 10692");
    }

    private static void balanceOf() {
        sentence(10, "BALANCE: what a PERSON is owed less what it owes.");
        run(THREE).due("balance(0) = -10", "balance(1) = 40", "balance(2) = -30");
        run(PAIR).due("balance(0) = 0", "balance(1) = 0");
        run(PAIR.replace("deaf", "plain") + "call k hour 0 times 9;").due("owed(0, 1) = 9", "owed(1, 0) = 9", "balance(0) = 0", "balance(1) = 0");
    }

    // ---- promises 8 to 10

    private static void entry() {
        sentence(8, "ENTRY: the PENCE that a PERSON owes by a BIRD's calls in an hour (to: to whom; NONE: nobody)");
        Run run = run("hills 8 2;person a shy at 0 0 purse 0;person b deaf at 3 0 purse 0;person c plain at 7 1 purse 0;bird k at 0 0;"
                + "call k hour 5 times 3;owe 4;fog 7;hear 6;");
        run.due("entry(0, 5, 0, false) = 0", "entry(0, 5, 0, true) = 1", "entry(0, 5, 1, false) = 0", "entry(0, 5, 1, true) = -1",
                "entry(0, 5, 2, false) = 0", "entry(0, 5, 2, true) = -1", "entry(0, 4, 0, true) = -1", "entry(0, 6, 0, true) = -1", "entry(0, 6, 0, false) = 0");
        run.due("call(0, 0, 1) = true", "entry(0, 0, 0, true) = 1", "call(0, 23, 1) = true", "entry(0, 23, 0, true) = 1");
        run.due("shoot(0, true) = true", "entry(0, 5, 0, true) = -1", "entry(0, 5, 0, false) = 0", "shoot(0, false) = true", "entry(0, 5, 0, true) = 1");
    }

    private static void entryOthers() {
        sentence(8, "NONE: others.");
        Run run = run(THREE);
        for (String to : new String[] {"true", "false"}) {
            run.changesNothing("entry(-1, 8, 0, " + to + ") = -1", "entry(2, 8, 0, " + to + ") = -1", "entry(5, 8, 0, " + to + ") = -1",
                    "entry(0, -1, 0, " + to + ") = -1", "entry(0, 24, 0, " + to + ") = -1", "entry(0, 8, -1, " + to + ") = -1",
                    "entry(0, 8, 3, " + to + ") = -1", "entry(0, 8, 6, " + to + ") = -1");
            for (String stray : new String[] {GREAT, SMALL}) {
                run.due("entry(" + stray + ", 8, 0, " + to + ") = -1", "entry(0, " + stray + ", 0, " + to + ") = -1", "entry(0, 8, " + stray + ", " + to + ") = -1");
            }
        }
        run.due("entry(1, 8, 2, false) = 8", "entry(0, 0, 0, false) = 0", "entry(0, 23, 0, false) = 0");
    }

    private static void owed() {
        sentence(9, "OWED by the first to the second in the DAY");
        Run run = run(THREE).due("owed(0, 1) = 12", "owed(0, 2) = 0", "shoot(1, true) = true", "owed(0, 1) = 3", "owed(2, 1) = 36", "shoot(0, true) = true",
                "owed(0, 1) = 0", "owed(2, 1) = 0");
        sentence(9, "NONE: others, the same.");
        run.changesNothing("owed(0, 0) = -1", "owed(1, 1) = -1", "owed(2, 2) = -1", "owed(-1, 0) = -1", "owed(0, -1) = -1", "owed(3, 0) = -1",
                "owed(0, 3) = -1", "owed(3, 3) = -1", "owed(-1, -1) = -1", "owed(6, 0) = -1", "owed(0, 6) = -1");
        for (String stray : new String[] {GREAT, SMALL}) {
            run.due("owed(" + stray + ", 0) = -1", "owed(0, " + stray + ") = -1");
        }
    }

    private static void balance() {
        sentence(10, "BALANCE in the DAY.");
        Run run = run(THREE).due("balance(1) = 40", "shoot(1, true) = true", "balance(1) = 29", "balance(0) = -1", "balance(2) = -28");
        sentence(10, "NoSuchElementException: no such PERSON.");
        run.changesNothing("balance(-1) = throws", "balance(3) = throws", "balance(5) = throws", "balance(6) = throws",
                "balance(" + GREAT + ") = throws", "balance(" + SMALL + ") = throws");
        run.due("balance(0) = -1", "balance(2) = -28");
        run("hills 2 2;bird k at 0 0;").due("balance(0) = throws");
    }

    // ---- promises 11 to 13

    private static void byHand() {
        sentence(11, "By hand: a CALL is told (or more times, or fewer, 0: none)");
        Run run = run(PAIR + "call k hour 3 times 5;").due("owed(0, 1) = 5", "call(0, 3, 6) = true", "owed(0, 1) = 6", "call(0, 3, 1) = true", "owed(0, 1) = 1",
                "count(4) = 1", "call(0, 3, 0) = true", "owed(0, 1) = 0", "count(4) = 0", "entry(0, 3, 0, true) = -1", "call(0, 3, 9) = true", "owed(0, 1) = 9");
        run.due("call(0, 4, 1) = true", "count(4) = 2", "bird(0, 2) = 10");
        sentence(12, "a BIRD is SHOT (its calls make nothing) or not.");
        run.due("shoot(0, true) = true", "owed(0, 1) = 0", "entry(0, 3, 0, false) = 0", "calls(0, 3) = 9", "count(4) = 2", "netted() = 0", "balance(1) = 0",
                "june(-1) = 0", "call(0, 5, 2) = true", "owed(0, 1) = 0", "shoot(0, false) = true", "owed(0, 1) = 12", "netted() = 12");
        run(THREE).due("shoot(0, true) = true", "owed(0, 1) = 9", "owed(2, 1) = 8", "owed(1, 0) = 0");
    }

    private static void call() {
        sentence(11, "By hand, a CALL: so many times (0 to 9): true");
        Run run = run(PAIR);
        for (int times = 1; times <= 9; times++) {
            run.due("call(0, 0, " + times + ") = true", "calls(0, 0) = " + times, "count(7) = " + times);
        }
        run.due("call(0, 0, 0) = true", "calls(0, 0) = 0", "call(0, 23, 9) = true", "calls(0, 23) = 9", "call(0, 23, 0) = true", "count(7) = 12");
        sentence(11, "false: others, it is so, 30 are there.");
        run = run(THREE).due("call(0, 3, 9) = true", "call(1, 8, 0) = true");
        run.changesNothing("call(0, 8, -1) = false", "call(0, 8, 10) = false", "call(-1, 8, 1) = false", "call(2, 8, 1) = false", "call(5, 8, 1) = false",
                "call(0, -1, 1) = false", "call(0, 24, 1) = false", "call(0, -1, 0) = false", "call(0, 24, 0) = false", "call(2, 8, 0) = false");
        for (String stray : new String[] {GREAT, SMALL}) {
            run.changesNothing("call(" + stray + ", 8, 1) = false", "call(0, " + stray + ", 1) = false", "call(0, 8, " + stray + ") = false");
        }
        sentence(11, "it is so");
        run.changesNothing("call(0, 8, 2) = false", "call(0, 3, 9) = false", "call(1, 8, 0) = false", "call(0, 0, 0) = false", "call(1, 23, 0) = false");
        run.due("shoot(1, true) = true", "call(1, 0, 0) = false", "call(1, 0, 1) = true", "call(1, 0, 1) = false");
        thirty();
    }

    private static void thirty() {
        sentence(11, "30 are there");
        Run run = run("hills 2 2;bird a at 0 0;bird b at 0 0;bird c at 0 0;");
        for (int i = 0; i < 29; i++) {
            run.first("call(" + i / 24 + ", " + i % 24 + ", 1)");
        }
        run.due("count(4) = 29", "call(1, 5, 1) = true", "count(4) = 30", "count(7) = 20");
        run.changesNothing("call(1, 6, 1) = false", "call(2, 0, 9) = false", "call(1, 23, 1) = false", "call(2, 0, 0) = false");
        // what makes no more of them is taken: other times, or none
        run.due("call(0, 0, 2) = true", "calls(0, 0) = 2", "count(4) = 30", "call(0, 0, 0) = true", "count(4) = 29", "call(2, 0, 9) = true",
                "count(4) = 30", "call(0, 0, 1) = false", "undo() = true", "count(4) = 29", "call(0, 0, 1) = true", "count(4) = 30");
        // a shot bird's calls count
        run.due("shoot(0, true) = true", "count(4) = 30", "call(2, 1, 1) = false");
    }

    private static void shoot() {
        sentence(12, "SHOT (or not): true");
        Run run = run("hills 2 2;bird a at 0 0;bird b at 0 0;bird c at 0 0;bird d at 0 0;bird e at 0 0;");
        for (int bird = 0; bird < 5; bird++) {
            run.due("shoot(" + bird + ", true) = true", "bird(" + bird + ", 1) = 1", "count(5) = " + (bird + 1), "count(7) = " + (bird + 1));
        }
        run.due("shoot(2, false) = true", "bird(2, 1) = 0", "bird(1, 1) = 1", "bird(3, 1) = 1", "count(5) = 4", "count(7) = 6");
        sentence(12, "false: others, it is so.");
        run.changesNothing("shoot(0, true) = false", "shoot(4, true) = false", "shoot(2, false) = false", "shoot(-1, true) = false",
                "shoot(-1, false) = false", "shoot(5, true) = false", "shoot(5, false) = false", "shoot(32, true) = false", "shoot(34, true) = false");
        for (String stray : new String[] {GREAT, SMALL}) {
            run.due("shoot(" + stray + ", true) = false", "shoot(" + stray + ", false) = false");
        }
        run(THREE).changesNothing("shoot(2, true) = false", "shoot(2, false) = false", "shoot(0, false) = false", "shoot(1, false) = false");
    }

    private static void undo() {
        sentence(13, "UNDO: these, the last 20, one by one.");
        for (int done : new int[] {1, 19, 20, 21, 25}) {
            Run run = run(PAIR + "bird l at 1 1;");
            for (int i = 0; i < done; i++) {
                run.due("call(" + i / 24 + ", " + i % 24 + ", " + (i % 9 + 1) + ") = true", "count(7) = " + Math.min(20, i + 1));
            }
            int forGood = Math.max(0, done - 20);
            for (int i = done - 1; i >= forGood; i--) {
                run.due("undo() = true", "calls(" + i / 24 + ", " + i % 24 + ") = 0", "count(4) = " + i, "count(7) = " + (i - forGood));
            }
            run.changesNothing("undo() = false");
        }
        kinds();
        sentence(13, "UNDO: true");
        run(PAIR).due("call(0, 0, 1) = true", "undo() = true", "calls(0, 0) = 0", "count(7) = 0");
        sentence(13, "false: nothing can be.");
        run(PAIR).changesNothing("undo() = false");
        // refused calls, what is told, stands and marks that are laid are nothing to undo
        Run run = run(PAIR).first("call(0, 0, 0)", "call(9, 0, 1)", "shoot(0, false)", "told(0, 5)", "mark(0, false)", "stand(0, 0, 5, 0)").due("count(7) = 0");
        run.changesNothing("undo() = false").due("count(6) = 1", "call(0, 0, 3) = true", "told(1, 6) = true", "undo() = true", "count(6) = 2", "undo() = false");
    }

    /** Calls and shots are undone in one order, the last one first. */
    private static void kinds() {
        Run run = run(THREE).first("call(0, 8, 5)", "shoot(1, true)", "call(0, 8, 0)", "call(1, 8, 9)", "shoot(1, false)", "shoot(0, true)").due("count(7) = 6");
        run.due("undo() = true", "bird(0, 1) = 0", "bird(1, 1) = 0", "undo() = true", "bird(1, 1) = 1", "undo() = true", "calls(1, 8) = 1",
                "undo() = true", "calls(0, 8) = 5", "undo() = true", "bird(1, 1) = 0", "undo() = true", "calls(0, 8) = 2", "undo() = false", "netted() = 40");
        // what was undone is not done again, and something else may come instead
        run.due("call(0, 8, 7) = true", "undo() = true", "shoot(0, true) = true", "count(7) = 1", "undo() = true", "calls(0, 8) = 2", "undo() = false");
        // other times for one call, again and again: each time what was before comes back
        Run times = run(PAIR + "call k hour 0 times 9;");
        for (int i = 0; i < 25; i++) {
            times.due("call(0, 0, " + (i * 2 % 7 + 1) + ") = true");
        }
        for (int i = 23; i >= 4; i--) {
            times.due("undo() = true", "calls(0, 0) = " + (i * 2 % 7 + 1));
        }
        times.due("undo() = false");
        // twenty shots fill it too, and push out what was before
        run.due("call(1, 0, 1) = true");
        for (int i = 0; i < 20; i++) {
            run.due("shoot(0, " + (i % 2 == 0) + ") = true");
        }
        run.due("count(7) = 20");
        for (int i = 0; i < 20; i++) {
            run.due("undo() = true", "bird(0, 1) = " + (i + 1) % 2);
        }
        run.due("undo() = false", "calls(1, 0) = 1");
    }
}
