import java.util.Arrays;

/** What a text tells of hills, its laws, and its faults: promise 3. */
final class HillsBoundaries extends Boundary {
    private static final String HEAD = "hills 4 3;person pp plain at 0 0 purse 1;bird bb at 1 1;";
    private static final String[] LAWS = {"owe", "fog"};
    private static final String[] RESERVED = {"hills", "person", "at", "purse", "go", "hour", "bird", "call", "times",
        "owe", "fog", "hear", "plain", "deaf", "child", "rich", "shy", "not", "and", "or"};

    private HillsBoundaries() {
    }

    static void all() {
        forms();
        sides();
        anyNumberOfLines();
        cells();
        sixPeople();
        kinds();
        fromHour0();
        purses();
        goes();
        twentyGoes();
        fiveBirds();
        calls();
        thirtyCalls();
        oweFogHear();
        names();
        noTwoAlike();
        laws();
        faults();
        from();
        stays();
    }

    private static void laws() {
        fromTheLeft();
        tests();
        sums();
        products();
        parts();
        withinFive();
        facts();
        factsOfOwe();
        factsOfFog();
        oneOrNought();
        whatIsNotNought();
        wrap();
        withoutLaws();
    }

    private static void faults() {
        place();
        firstWrongToken();
        theLeast();
        cannotStandThere();
        anotherLineFirst();
        ofNoPerson();
        toldAlready();
        toldHours();
        secondTime();
        numberNotAsTold();
        oneTooMany();
        partTooDeep();
    }

    // ---- lines

    /** A line is as its form says: no token of it is another, is left out, comes twice, or is the text's end. */
    private static void forms() {
        String head = "hills 4 3 ; person pp plain at 0 0 purse 1 ; bird bb at 1 1 ; ";
        sentence(3, "hills N N ;");
        form("", "hills 4 3 ;");
        sentence(3, "person NAME KIND at N N purse N ;");
        form(head, "person qq shy at 3 2 purse 9 ;");
        sentence(3, "go NAME hour N at N N ;");
        form(head, "go pp hour 2 at 3 2 ;");
        sentence(3, "bird NAME at N N ;");
        form(head, "bird cc at 3 2 ;");
        sentence(3, "call NAME hour N times N ;");
        form(head, "call bb hour 2 times 9 ;");
        sentence(3, "owe E ;");
        form(head, "owe 1 ;");
        sentence(3, "fog E ;");
        form(head, "fog 1 ;");
        sentence(3, "hear N ;");
        form(head, "hear 1 ;");
    }

    private static void form(String head, String line) {
        fine(head + line);
        fine(head + line.replace(" ;", ";"));
        String[] tokens = line.split(" ");
        String before = head;
        for (int i = 0; i < tokens.length; i++) {
            String behind = String.join(" ", Arrays.copyOfRange(tokens, i + 1, tokens.length));
            for (String other : new String[] {")", "?", "12345", "abcdefghi", "at("}) {
                if (!other.startsWith(tokens[i])) {
                    fault(1, before + "@" + other + " " + behind);
                }
            }
            if (i > 0) {
                fault(1, before + "@");
            }
            // the first of two NUMBERS is taken for the second, and the fault comes behind them
            if (!isNumber(tokens, i) || !isNumber(tokens, i + 1)) {
                fault(1, before + "@" + (behind.isEmpty() ? "hear 1 ;" : behind));
                fault(1, before + tokens[i] + " @" + tokens[i] + " " + behind);
            }
            before += tokens[i] + " ";
        }
    }

    private static boolean isNumber(String[] tokens, int i) {
        return i < tokens.length && Character.isDigit(tokens[i].charAt(0));
    }

    private static void sides() {
        sentence(3, "HILLS: hills N N ; first (how wide, how deep, 2 to 8 each)");
        for (int side = 0; side <= 10; side++) {
            if (side >= 2 && side <= 8) {
                run("hills " + side + " 2;").due("count(0) = " + side, "count(1) = 2");
                run("hills 8 " + side + ";").due("count(0) = 8", "count(1) = " + side);
            } else {
                fault(4, "hills @" + side + " 2;");
                fault(4, "hills 2 @" + side + ";");
            }
        }
        fault(4, "hills @9999 2;");
        fault(4, "hills 2 @9999;");
    }

    private static void anyNumberOfLines() {
        sentence(3, "then any number of person NAME KIND at N N purse N ;");
        run("hills 2 2;").due("count(2) = 0", "count(3) = 0", "count(4) = 0", "netted() = 0");
        StringBuilder text = new StringBuilder("hills 2 2;hear 0;fog 0;bird p at 1 1;owe 2;");
        for (int i = 0; i < 6; i++) {
            text.append("person ").append((char) ('a' + i)).append(" plain at 1 1 purse ").append(i).append(';');
        }
        for (int i = 0; i < 20; i++) {
            text.append("go ").append((char) ('a' + i % 6)).append(" hour ").append(i + 1).append(" at 0 0;");
        }
        for (int i = 0; i < 11; i++) {
            text.append("call p hour ").append(i).append(" times 9;");
        }
        run(text.toString()).due("count(2) = 6", "person(5, 1) = 5", "place(1, 1) = 9", "place(1, 2) = 0", "count(4) = 11",
                "entry(0, 10, 0, false) = 0", "entry(0, 0, 0, false) = 18", "owed(5, 0) = 18");
    }

    private static void cells() {
        sentence(3, "All CELLS x, y are in the hills (0 to how wide less 1, 0 to how deep less 1).");
        String narrow = "hills 3 5;person pp plain at 0 0 purse 1;";
        String[] lines = {"person qq plain at # purse 0;", "go pp hour 7 at #;", "bird bb at #;"};
        String[] where = {"place(1, 0)", "place(0, 7)", "bird(0, 0)"};
        for (int i = 0; i < lines.length; i++) {
            run(narrow + lines[i].replace("#", "0 0")).due(where[i] + " = 0");
            run(narrow + lines[i].replace("#", "2 0")).due(where[i] + " = 2");
            run(narrow + lines[i].replace("#", "0 4")).due(where[i] + " = 32");
            run(narrow + lines[i].replace("#", "2 4")).due(where[i] + " = 34");
            fault(4, narrow + lines[i].replace("#", "@3 0"));
            fault(4, narrow + lines[i].replace("#", "@9999 9999"));
            fault(4, narrow + lines[i].replace("#", "2 @5"));
            fault(4, narrow + lines[i].replace("#", "0 @9999"));
            fault(4, narrow.replace("3 5", "5 3") + lines[i].replace("#", "4 @3"));
            run(narrow.replace("3 5", "5 3") + lines[i].replace("#", "4 2")).due(where[i] + " = 20");
            run("hills 8 8;person pp plain at 0 0 purse 1;" + lines[i].replace("#", "7 7")).due(where[i] + " = 63");
            fault(4, "hills 8 8;person pp plain at 0 0 purse 1;" + lines[i].replace("#", "@8 7"));
            fault(4, "hills 8 8;person pp plain at 0 0 purse 1;" + lines[i].replace("#", "7 @8"));
        }
    }

    private static String people(int many) {
        StringBuilder text = new StringBuilder("hills 8 2;");
        for (int i = 0; i < many; i++) {
            text.append("person a").append((char) ('a' + i)).append(" plain at ").append(i).append(" 1 purse ").append(i + 10).append(';');
        }
        return text.toString();
    }

    private static void sixPeople() {
        sentence(3, "person: 6 at most, numbered as told");
        run(people(5)).due("count(2) = 5", "person(4, 1) = 14", "person(5, 1) = -1");
        Run six = run(people(6)).due("count(2) = 6", "person(6, 1) = -1", "place(5, 0) = 13");
        for (int i = 0; i < 6; i++) {
            six.due("person(" + i + ", 1) = " + (10 + i));
        }
        six.faulty(5, people(6) + "@person ag plain at 6 1 purse 16;");
    }

    private static void kinds() {
        sentence(3, "KIND: plain, deaf, child, rich or shy");
        String[] kinds = {"plain", "deaf", "child", "rich", "shy"};
        for (int i = 0; i < kinds.length; i++) {
            run("hills 2 2;person a " + kinds[i] + " at 0 0 purse 0;").due("person(0, 0) = " + i);
        }
        for (String other : new String[] {"hear", "not", "poor", "at", "1", ";", "Plain", "plainx", "x"}) {
            fault(1, "hills 2 2;person a @" + other + " at 0 0 purse 0;");
        }
    }

    private static void fromHour0() {
        sentence(3, "at a CELL from hour 0 on");
        run("hills 8 8;person a plain at 7 6 purse 0;").due("place(0, 0) = 55", "place(0, 1) = 55", "place(0, 23) = 55");
        run("hills 8 8;person a plain at 7 6 purse 0;go a hour 1 at 0 0;").due("place(0, 0) = 55", "place(0, 1) = 0");
    }

    private static void purses() {
        sentence(3, "purse 0 to 9999");
        run("hills 2 2;person a plain at 0 0 purse 0;person b plain at 0 0 purse 9999;person c plain at 0 0 purse 1;")
                .due("person(0, 1) = 0", "person(1, 1) = 9999", "person(2, 1) = 1", "june(1) = 9999");
        fault(1, "hills 2 2;person a plain at 0 0 purse @10000;");
        fault(1, "hills 2 2;person a plain at 0 0 purse @-1;");
    }

    private static void goes() {
        sentence(3, "go: a PERSON told is at a CELL from an hour (1 to 23) on");
        run(HEAD + "go pp hour 1 at 3 2;").due("place(0, 0) = 0", "place(0, 1) = 19", "place(0, 2) = 19", "place(0, 23) = 19");
        run(HEAD + "go pp hour 23 at 3 2;").due("place(0, 22) = 0", "place(0, 23) = 19");
        run(HEAD + "go pp hour 9 at 3 2;go pp hour 8 at 1 0;go pp hour 10 at 2 0;")
                .due("place(0, 7) = 0", "place(0, 8) = 1", "place(0, 9) = 19", "place(0, 10) = 2", "place(0, 23) = 2");
        fault(4, HEAD + "go pp hour @0 at 3 2;");
        fault(4, HEAD + "go pp hour @24 at 3 2;");
        fault(4, HEAD + "go pp hour @9999 at 3 2;");
        fault(2, "hills 4 3;go @pp hour 1 at 0 0;person pp plain at 0 0 purse 0;");
    }

    private static String goes(int many) {
        StringBuilder text = new StringBuilder("hills 4 3;person a plain at 0 0 purse 0;person b plain at 0 0 purse 0;");
        for (int i = 0; i < many; i++) {
            text.append("go ").append((char) ('a' + i % 2)).append(" hour ").append(i / 2 + 1).append(" at 1 ").append(i % 3).append(';');
        }
        return text.toString();
    }

    private static void twentyGoes() {
        sentence(3, "once for each hour; 20 at most");
        fault(3, HEAD + "go pp hour 5 at 1 1;go pp hour @5 at 2 2;");
        fault(3, HEAD + "go pp hour 5 at 1 1;go pp hour 6 at 1 1;go pp hour 4 at 1 1;go pp hour @5 at 1 1;");
        run(HEAD + "person qq deaf at 0 0 purse 0;go pp hour 5 at 1 1;go qq hour 5 at 2 2;")
                .due("place(0, 5) = 9", "place(1, 5) = 18", "place(0, 4) = 0", "place(1, 4) = 0");
        run(goes(19)).due("place(0, 10) = 1", "place(1, 9) = 17", "place(1, 10) = 17");
        run(goes(20)).due("place(0, 10) = 1", "place(1, 9) = 17", "place(1, 10) = 9").faulty(5, goes(20) + "@go a hour 23 at 0 0;");
        fault(5, goes(20) + "@go b hour 10 at 0 0;");
    }

    private static String birds(int many) {
        StringBuilder text = new StringBuilder("hills 8 2;");
        for (int i = 0; i < many; i++) {
            text.append("bird a").append((char) ('a' + i)).append(" at ").append(i).append(" 1;");
        }
        return text.toString();
    }

    private static void fiveBirds() {
        sentence(3, "bird: 5 at most, numbered as told, in a bush at a CELL");
        run(birds(4)).due("count(3) = 4", "bird(3, 0) = 11", "bird(4, 0) = -1");
        Run five = run(birds(5)).due("count(3) = 5", "bird(5, 0) = -1");
        for (int i = 0; i < 5; i++) {
            five.due("bird(" + i + ", 0) = " + (8 + i));
        }
        five.faulty(5, birds(5) + "@bird af at 5 1;");
    }

    private static void calls() {
        sentence(3, "call: of a BIRD told, in an hour (0 to 23), so many times (1 to 9)");
        run(HEAD + "call bb hour 0 times 1;call bb hour 23 times 9;call bb hour 12 times 5;")
                .due("calls(0, 0) = 1", "calls(0, 1) = 0", "calls(0, 12) = 5", "calls(0, 22) = 0", "calls(0, 23) = 9", "bird(0, 2) = 15");
        fault(4, HEAD + "call bb hour @24 times 1;");
        fault(4, HEAD + "call bb hour @9999 times 1;");
        fault(4, HEAD + "call bb hour 0 times @0;");
        fault(4, HEAD + "call bb hour 0 times @10;");
        fault(4, HEAD + "call bb hour 0 times @9999;");
        fault(2, "hills 4 3;call @bb hour 0 times 1;bird bb at 0 0;");
    }

    /** Calls of two birds, the second one's from hour 0 on when the first has called in all hours. */
    private static String calls(int many) {
        StringBuilder text = new StringBuilder("hills 2 2;bird a at 0 0;bird b at 0 0;");
        for (int i = 0; i < many; i++) {
            text.append("call ").append((char) ('a' + i / 24)).append(" hour ").append(i % 24).append(" times 1;");
        }
        return text.toString();
    }

    private static void thirtyCalls() {
        sentence(3, "each BIRD and hour once; 30 at most, those by hand too.");
        fault(3, HEAD + "call bb hour 7 times 1;call bb hour @7 times 2;");
        fault(3, HEAD + "call bb hour 0 times 1;call bb hour @0 times 1;");
        run(HEAD + "bird cc at 0 0;call bb hour 7 times 1;call cc hour 7 times 2;call bb hour 8 times 3;")
                .due("calls(0, 7) = 1", "calls(1, 7) = 2", "calls(0, 8) = 3", "count(4) = 3");
        run(calls(29)).due("count(4) = 29", "call(1, 5, 1) = true", "count(4) = 30").changesNothing("call(1, 6, 1) = false");
        Run full = run(calls(30)).due("count(4) = 30", "calls(1, 5) = 1", "calls(1, 6) = 0");
        full.changesNothing("call(1, 6, 1) = false", "call(1, 23, 9) = false").faulty(5, calls(30) + "@call b hour 6 times 1;");
        fault(5, calls(30) + "@call b hour 5 times 1;");
        full.due("call(0, 0, 0) = true", "count(4) = 29", "call(1, 23, 9) = true", "count(4) = 30", "call(0, 0, 1) = false");
    }

    private static void oweFogHear() {
        sentence(3, "owe, fog, hear (0 to 14; 14 without): once each.");
        for (int hear = 0; hear <= 14; hear++) {
            run(HEAD + "hear " + hear + ";").due("count(2) = 1");
        }
        fault(4, HEAD + "hear @15;");
        fault(4, HEAD + "hear @9999;");
        // two who stand together, as far from the bush as can be
        String corner = "hills 8 8;person a plain at 0 0 purse 0;person b plain at 0 0 purse 0;bird c at 7 7;call c hour 0 times 1;";
        run(corner).due("entry(0, 0, 0, true) = 1");
        run(corner + "hear 14;").due("entry(0, 0, 0, true) = 1");
        run(corner + "hear 13;").due("entry(0, 0, 0, true) = -1");
        run(corner.replace("7 7", "0 0") + "hear 0;").due("entry(0, 0, 0, true) = 1");
        run(corner.replace("7 7", "0 1") + "hear 0;").due("entry(0, 0, 0, true) = -1");
        run(corner + "hear 14;owe 3;fog 0;").due("entry(0, 0, 0, false) = 3").faulty(3, corner + "hear 14;@hear 14;");
        fault(3, HEAD + "owe 1;fog 1;@owe 1;");
        fault(3, HEAD + "fog 1;owe 1;@fog 1;");
        fault(3, HEAD + "hear 1;owe 1;fog 1;@hear 1;");
    }

    private static void names() {
        sentence(3, "A NAME is another WORD than hills, person, at, purse, go, hour, bird, call, times, owe, fog, hear, the KINDS, not, and, or");
        for (String word : RESERVED) {
            fault(1, HEAD + "person @" + word + " plain at 0 0 purse 0;");
            fault(1, HEAD + "bird @" + word + " at 0 0;");
            fault(1, HEAD + "go @" + word + " hour 1 at 0 0;");
            fault(1, HEAD + "call @" + word + " hour 1 times 1;");
        }
        for (String word : new String[] {"far", "near", "x", "y", "hill", "hillss", "nor", "kind", "a", "told"}) {
            run(HEAD + "person " + word + " plain at 0 0 purse 0;go " + word + " hour 1 at 1 1;").due("place(1, 1) = 9");
            run(HEAD + "bird " + word + " at 0 0;call " + word + " hour 1 times 1;").due("calls(1, 1) = 1");
        }
        for (String other : new String[] {"1", "(", ";", "A", "abcdefghi"}) {
            fault(1, HEAD + "person @" + other + " plain at 0 0 purse 0;");
            fault(1, HEAD + "bird @" + other + " at 0 0;");
            fault(1, HEAD + "go @" + other + " hour 1 at 0 0;");
            fault(1, HEAD + "call @" + other + " hour 1 times 1;");
        }
    }

    private static void noTwoAlike() {
        sentence(3, "no two (PERSONS, BIRDS) are alike.");
        fault(3, HEAD + "person @pp plain at 0 0 purse 0;");
        fault(3, HEAD + "person @bb plain at 0 0 purse 0;");
        fault(3, HEAD + "bird @pp at 0 0;");
        fault(3, HEAD + "bird @bb at 0 0;");
        fault(3, people(5) + "person @aa plain at 0 0 purse 0;");
        fault(3, people(5) + "person @ae plain at 0 0 purse 0;");
        fault(3, people(6) + "bird @af at 0 0;");
        fault(3, birds(4) + "bird @ad at 0 0;");
        fault(3, birds(5) + "person @ae plain at 0 0 purse 0;");
        run("hills 2 2;person q plain at 0 0 purse 0;person aa plain at 0 0 purse 0;person ab plain at 0 0 purse 0;bird ba at 0 0;bird aaa at 0 0;bird b at 1 1;"
                + "go aa hour 1 at 1 1;call b hour 0 times 2;").due("count(2) = 3", "place(0, 1) = 0", "place(1, 1) = 9", "calls(2, 0) = 2");
        run(HEAD + "person p plain at 0 0 purse 0;person ppp plain at 0 0 purse 0;bird b at 0 0;bird bbb at 0 0;").due("count(2) = 3", "count(3) = 3");
    }

    // ---- laws

    /** One who stands 3 from the bush and 2 from the other, in hour 5, hears one call. */
    private static void value(String law, int want) {
        run("hills 8 8;person a plain at 1 2 purse 0;person b deaf at 1 4 purse 0;bird c at 3 1;call c hour 5 times 1;owe " + law + ";")
                .due("entry(0, 5, 0, false) = " + want);
    }

    /** How far a fog lets one see who stands at 1 2 in hour 5, up to 9. */
    private static void reach(String law, int want) {
        for (int away = 0; away <= 9; away++) {
            int x = Math.min(7, 1 + away);
            int y = 2 + away - (x - 1);
            run("hills 8 8;person a plain at 1 2 purse 0;person b deaf at " + x + " " + y
                    + " purse 0;bird c at 3 1;call c hour 5 times 1;fog " + law + ";").due("entry(0, 5, 0, true) = " + (away <= want ? 1 : -1));
        }
    }

    private static void law(int kind, String text) {
        for (String law : LAWS) {
            if (kind == 0) {
                fine(HEAD + law + " " + text + ";");
            } else {
                fault(kind, HEAD + law + " " + text);
            }
        }
    }

    private static void fromTheLeft() {
        sentence(3, "E: TEST { and TEST or or TEST }, from the left");
        value("1", 1);
        value("1 and 0", 0);
        value("1 or 0", 1);
        value("1 or 1 and 0", 0);
        value("1 or ( 1 and 0 )", 1);
        value("0 and 0 or 1", 1);
        value("0 and ( 0 or 1 )", 0);
        value("7 and 8", 1);
        value("1" + " and 1".repeat(60), 1);
        value("1" + " and 1".repeat(60) + " and 0 or 0", 0);
        law(1, "1 and @;");
        law(1, "1 or @and 1;");
        law(1, "@or 1;");
    }

    private static void tests() {
        sentence(3, "TEST: SUM, or SUM < SUM, or SUM = SUM");
        value("1 < 2", 1);
        value("2 < 2", 0);
        value("3 < 2", 0);
        value("1 = 2", 0);
        value("2 = 2", 1);
        value("3 = 2", 0);
        value("1 + 1 = 2", 1);
        value("5 < 2 + 4", 1);
        value("1 < 2 and 2 < 3", 1);
        value("( 3 < 2 ) < 1", 1);
        law(0, "(1<2)<3");
        law(1, "1 < 2 @< 3;");
        law(1, "1 < 2 @= 3;");
        law(1, "1 = 2 @< 3;");
        law(1, "1 = 2 @= 2;");
        law(1, "1 < @< 2;");
        law(1, "1 < @= 2;");
        law(1, "@< 2;");
    }

    private static void sums() {
        sentence(3, "SUM: PRODUCT { + or - PRODUCT }");
        value("9 - 2 - 1", 6);
        value("9 - ( 2 - 1 )", 8);
        value("9 - 2 + 1", 8);
        value("1 + 2 * 3", 7);
        value("0" + "+1".repeat(90), 90);
        longLaws();
        law(1, "1 + @;");
        law(1, "@+ 1;");
        law(1, "@- 1;");
        law(1, "1 - @- 1;");
    }

    /** As long a law as the tape can hold, again and again. */
    private static void longLaws() {
        String head = "hills 2 2;person a plain at 0 0 purse 0;person b deaf at 0 0 purse 0;bird c at 0 0;call c hour 0 times 1;";
        Run run = anew();
        for (int i = 0; i < 4; i++) {
            String start = head + "owe " + (90 + i);
            int pairs = (1000 - start.length() - 1) / 4;
            run.hills(start + "+1-1".repeat(pairs) + ";").due("entry(0, 0, 0, false) = " + (90 + i));
            run.hills(head + "owe 5" + "*1".repeat(200) + ";fog 1" + "-0".repeat(200) + ";").due("entry(0, 0, 0, false) = 5");
        }
        String waiting = "0 or 1 = 0 + 1 * ";
        value(waiting + "(" + waiting + "(" + waiting + "(" + waiting + "(" + waiting + "1))))", 1);
        value(waiting + "(" + waiting + "(" + waiting + "(" + waiting + "(" + waiting + "2))))", 0);
    }

    private static void products() {
        sentence(3, "PRODUCT: PART { * PART }");
        value("7", 7);
        value("2 * 3 * 4", 24);
        value("2 * 3 + 1", 7);
        value("2 * ( 3 + 1 )", 8);
        value("not 0 * 5", 5);
        law(1, "2 * @;");
        law(1, "2 @2;");
        law(1, "2 * @* 2;");
    }

    private static void parts() {
        sentence(3, "PART: a NUMBER, a fact, not PART, ( E )");
        value("0", 0);
        value("98", 98);
        value("hour", 5);
        value("not hour", 0);
        value("not not hour", 1);
        value("( 1 < 2 and 3 )", 1);
        for (String other : new String[] {";", ")", "pp", "bb", "at", "hills", "and", "<", "=", "*", "00000", "A"}) {
            law(1, "@" + other + ";");
            law(1, "not @" + other + ";");
            law(1, "( @" + other + ";");
            law(1, "1 + @" + other + ";");
        }
        law(1, "( 1 @;");
        law(1, "1 @);");
        law(1, "( 1 ) @( 1 );");
        law(1, "1 @not 1;");
        law(1, "@");
    }

    private static void withinFive() {
        sentence(3, "no PART lies within 5 of not and ( ).");
        value("not not not not 0", 0);
        value("((((7))))", 7);
        value("not(not(3))", 1);
        value("((((1))+((2))))+(((not 0)))", 4);
        value("(((1+(1)*(2))+(not 3)))+(not(not 1))", 4);
        law(5, "(((1+(1)*(2))+(not 3)))+(not(not(@1)));");
        law(5, "not not not not not @1;");
        law(5, "(((((@1)))));");
        law(5, "not(not(not @hour));");
        law(5, "(not(not(@hour)));");
        law(5, "((((1)+(2+(@3)))));");
        law(0, "((((1)+(2+3))))");
        // what is left again is not counted
        law(0, "((((1))))+((((1))))*not not not not 1");
        law(5, "((((1))))+((((1))))*not not not not not @1;");
    }

    private static void facts() {
        sentence(3, "Facts: hour");
        for (int hour : new int[] {0, 1, 22, 23}) {
            run("hills 8 8;person a plain at 0 0 purse 0;person b deaf at 0 0 purse 0;bird c at 0 0;call c hour " + hour + " times 1;owe hour + 1;")
                    .due("entry(0, " + hour + ", 0, false) = " + (hour + 1));
            run("hills 8 8;person a plain at 0 0 purse 0;person b deaf at 7 4 purse 0;bird c at 0 0;call c hour " + hour + " times 1;fog hour - 11;")
                    .due("entry(0, " + hour + ", 0, true) = " + (hour >= 22 ? 1 : -1));
        }
    }

    private static void factsOfOwe() {
        sentence(3, "in owe also far (how far the PERSON is from the bush), near (how far the one is whom it would owe), times");
        value("far", 3);
        value("near", 2);
        value("times", 1);
        value("hour * 10 + far * 3 - near + times", 58);
        String text = "hills 8 8;person a plain at 0 0 purse 0;person b deaf at 7 7 purse 0;bird c at 7 7;bird d at 0 0;"
                + "call c hour 0 times 9;call d hour 0 times 1;owe ";
        run(text + "far;").due("entry(0, 0, 0, false) = " + 14 * 9, "entry(1, 0, 0, false) = 0");
        run(text + "near;").due("entry(0, 0, 0, false) = " + 14 * 9, "entry(1, 0, 0, false) = 14");
        run(text + "times;").due("entry(0, 0, 0, false) = 81", "entry(1, 0, 0, false) = 1");
        run(text.replace("deaf at 7 7", "deaf at 0 0") + "near;").due("entry(0, 0, 0, false) = 0");
        manyAnswers(0, 0, 7, 7);
        manyAnswers(7, 7, 1, 6);
        manyAnswers(2, 5, 3, 3);
        for (String fact : new String[] {"x", "y"}) {
            fault(1, HEAD + "owe @" + fact + ";");
        }
    }

    /** The law is asked anew for each hour, far, near and times: a walks from its cell to 0 0, b from its own to 7 0. */
    private static void manyAnswers(int ax, int ay, int bx, int by) {
        int[][] bushes = {{0, 0}, {7, 7}, {3, 4}};
        Run run = run("hills 8 8;person a plain at " + ax + " " + ay + " purse 0;person b deaf at " + bx + " " + by + " purse 0;"
                + "go a hour 12 at 0 0;go b hour 16 at 7 0;bird k at 0 0;bird l at 7 7;bird m at 3 4;owe far * 3 + near * 2 + times + hour;");
        for (int hour : new int[] {0, 1, 11, 12, 15, 16, 22, 23}) {
            int x = hour < 12 ? ax : 0;
            int y = hour < 12 ? ay : 0;
            int near = Math.abs(x - (hour < 16 ? bx : 7)) + Math.abs(y - (hour < 16 ? by : 0));
            for (int bird = 0; bird < bushes.length; bird++) {
                int far = Math.abs(x - bushes[bird][0]) + Math.abs(y - bushes[bird][1]);
                for (int times : new int[] {9, 1, 5, 2}) {
                    int pence = Math.min(99, far * 3 + near * 2 + times + hour) * times;
                    run.due("call(" + bird + ", " + hour + ", " + times + ") = true", "entry(" + bird + ", " + hour + ", 0, false) = " + pence);
                }
                run.first("call(" + bird + ", " + hour + ", 0)");
            }
        }
    }

    private static void factsOfFog() {
        sentence(3, "in fog also x, y (of the PERSON).");
        reach("x", 1);
        reach("y", 2);
        reach("hour", 5);
        reach("x * 2 + y", 4);
        String corner = "hills 8 8;person a plain at 7 0 purse 0;person b plain at 0 7 purse 0;bird c at 0 0;call c hour 0 times 1;fog ";
        run(corner + "x * 2;").due("entry(0, 0, 0, true) = 1", "entry(0, 0, 1, true) = -1");
        run(corner + "y * 2;").due("entry(0, 0, 0, true) = -1", "entry(0, 0, 1, true) = 0");
        // in each hour at one corner, and at the other one in the next
        StringBuilder walk = new StringBuilder("hills 8 8;person a plain at 7 7 purse 0;person b deaf at 3 3 purse 0;bird c at 0 0;fog x + y - hour + 1;");
        for (int hour = 5; hour < 24; hour++) {
            walk.append("go a hour ").append(hour).append(hour % 2 == 0 ? " at 7 7;" : " at 0 0;");
        }
        Run walker = run(walk.toString());
        for (int hour = 23; hour >= 0; hour--) {
            boolean isFar = hour < 5 || hour % 2 == 0;
            boolean sees = isFar ? 14 - hour + 1 >= 8 : 1 - hour >= 6;
            walker.due("call(0, " + hour + ", 1) = true", "entry(0, " + hour + ", 0, true) = " + (sees ? 1 : -1));
        }
        for (String fact : new String[] {"far", "near", "times"}) {
            fault(1, HEAD + "fog @" + fact + ";");
        }
    }

    private static void oneOrNought() {
        sentence(3, "Of not, and, or, < and = comes 1 or 0");
        value("not 0", 1);
        value("not 1", 0);
        value("not 9999", 0);
        value("7 and 9", 1);
        value("7 and 0", 0);
        value("0 and 7", 0);
        value("0 and 0", 0);
        value("7 or 9", 1);
        value("7 or 0", 1);
        value("0 or 7", 1);
        value("0 or 0", 0);
        value("2 < 9", 1);
        value("9 < 2", 0);
        value("9 = 9", 1);
        value("9 = 2", 0);
        value("( 2 < 9 ) * 10 + ( 5 or 6 ) * 5 + not 0", 16);
        value("( 0 or 0 ) + 3", 3);
        value("( 7 and 0 ) + 3", 3);
        value("( 9 < 2 ) + 3", 3);
        value("( 9 = 2 ) + 3", 3);
        value("not 7 + 3", 3);
    }

    private static void whatIsNotNought() {
        sentence(3, "what is not 0 is so");
        value("0 - 1 and 1", 1);
        value("1 and 0 - 1", 1);
        value("0 or 0 - 1", 1);
        value("0 - 1 or 0", 1);
        value("not ( 0 - 1 )", 0);
        value("not ( 0 - 9999 )", 0);
        value("not ( 1 - 1 )", 1);
        value("2 and 4", 1);
    }

    private static void wrap() {
        sentence(3, "ints wrap");
        String most = "(2048*1024*1023+2048*1023+2047)";
        value(most + " < 0", 0);
        value(most + " + 1 < 0", 1);
        value("0 - " + most + " - 1 < 0", 1);
        value("0 - " + most + " - 2 < 0", 0);
        value(most + " + 1 = 0 - " + most + " - 1", 1);
        value("2048 * 1024 * 1024 < 0", 1);
        value("4096 * 1024 * 1024", 0);
        value("4096 * 1024 * 1024 + 7", 7);
        value("4096 * 4096 * 256 * 3 + 5", 5);
        value(most + " * 2 + 5", 3);
        value(most, 99);
        value(most + " + 1", 0);
        reach("4096 * 1024 * 1024 + 3", 3);
        reach(most + " + 1", 0);
    }

    private static void withoutLaws() {
        sentence(3, "Without owe: 1; without fog: 14.");
        String text = "hills 8 8;person a plain at 0 0 purse 0;person b plain at 7 7 purse 0;bird c at 3 3;call c hour 0 times 4;";
        run(text).due("entry(0, 0, 0, false) = 4", "entry(0, 0, 0, true) = 1", "entry(0, 0, 1, true) = 0");
        run(text + "owe 1;fog 14;").due("entry(0, 0, 0, false) = 4", "entry(0, 0, 0, true) = 1");
        run(text + "owe 0;").due("entry(0, 0, 0, false) = 0", "entry(0, 0, 0, true) = 1");
        run(text + "fog 13;").due("entry(0, 0, 0, false) = 0", "entry(0, 0, 0, true) = -1");
        // laws of hills before are gone
        run(text + "owe 5;fog 0;hear 0;").hills(text).due("entry(0, 0, 0, false) = 4", "entry(0, 0, 0, true) = 1");
    }

    // ---- faults

    private static void place() {
        sentence(3, "FAULTS, kind + 16 * the place (from 0) of a token, the end being one at the text's length");
        anew().due("hills() = 1");
        anew().feed("x").due("hills() = 1");
        anew().feed(" x").due("hills() = 17");
        anew().feed("hills").due("hills() = " + (1 + 16 * 5));
        anew().feed("hills  \n").due("hills() = " + (1 + 16 * 8));
        anew().feed("hills 2 2").due("hills() = " + (1 + 16 * 9));
        anew().feed("hills 2 2;\n?").due("hills() = " + (1 + 16 * 11));
        anew().feed("hills 2 2;" + " ".repeat(989) + "?").due("hills() = " + (1 + 16 * 999));
        anew().feed("hills 2 2 " + " ".repeat(990)).due("hills() = " + (1 + 16 * 1000));
    }

    private static void firstWrongToken() {
        sentence(3, "of the first token from the left that is wrong the least");
        fault(4, "hills 2 @1;?");
        fault(4, "hills 2 2;bird a at @2 2;bird a at 0 0;");
        fault(2, HEAD + "go @bb hour 24 at 9 9;");
        fault(3, HEAD + "person @pp plain at 9 9;");
        fault(5, people(6) + "@person aa plain at 9 9;");
        fault(1, HEAD + "call bb @times 0;");
        fault(3, HEAD + "owe 1;@owe ?");
        fault(5, HEAD + "owe not not not not not @1 ?");
        fault(1, HEAD + "owe 1 @? not not not not not 1");
    }

    private static void theLeast() {
        // one and the same token that is wrong in two ways
        sentence(3, "that is wrong the least");
        law(1, "not not not not not @);");
        law(1, "not not not not not @;");
        law(1, "(((((@and");
        law(1, "(((((@pp");
        law(1, "(((((@12345");
        fault(1, HEAD + "owe (((((@x");
        fault(1, HEAD + "fog (((((@far");
        fault(5, HEAD + "owe (((((@far");
        fault(5, HEAD + "fog (((((@x");
        // none a NAME, and none of a PERSON or a BIRD either
        fault(1, HEAD + "go @hear hour 1 at 0 0;");
        fault(1, HEAD + "call @abcdefghi hour 1 times 1;");
        // too long a NUMBER, and too great a one
        fault(1, HEAD + "hear @10000;");
    }

    private static void cannotStandThere() {
        sentence(3, "1 it is none, or can't stand there");
        fault(1, HEAD + "@?");
        fault(1, HEAD + "@pp");
        fault(1, HEAD + "@4");
        fault(1, HEAD + "@;");
        fault(1, HEAD + "@at 1 1;");
        fault(1, HEAD + "@plain pp at 0 0 purse 0;");
        fault(1, HEAD + "@far;");
        fault(1, HEAD + "hear 1 @1;");
        fault(1, HEAD + "hear @;");
        fault(1, HEAD + "hear @far;");
        fault(1, HEAD + "hear 1 @hear 1;");
        fault(1, HEAD + "go pp @at 1 1 hour 1;");
        fault(1, HEAD + "go pp hour @at 1 1;");
        fault(1, HEAD + "go pp hour 1 @1 1;");
        fault(1, HEAD + "call bb hour 1 @1;");
        fault(1, HEAD + "bird cc at 1 @;");
        fault(1, HEAD + "bird cc at 1 1 @purse 1;");
        fault(1, HEAD + "person qq plain at 1 1 @;");
    }

    private static void anotherLineFirst() {
        sentence(3, "(another line than hills first, hills again)");
        String[] lines = {"person a plain at 0 0 purse 0;", "go a hour 1 at 0 0;", "bird a at 0 0;", "call a hour 0 times 1;",
            "owe 1;", "fog 1;", "hear 1;"};
        for (String line : lines) {
            fault(1, "@" + line + "hills 2 2;");
        }
        fault(1, "@;hills 2 2;");
        fault(1, "hills 2 2;@hills 2 2;");
        fault(1, "hills 2 2;owe 1;@hills 3 3;");
        run("hills 3 4;").faulty(1, "hills 2 2;@hills 5 5;").hills("hills 5 5;").due("count(0) = 5");
    }

    private static void ofNoPerson() {
        sentence(3, "2 a NAME of no PERSON (behind go), of no BIRD (behind call) told");
        for (String name : new String[] {"p", "ppp", "q", "bb", "x", "far"}) {
            fault(2, HEAD + "go @" + name + " hour 1 at 0 0;");
        }
        for (String name : new String[] {"b", "bbb", "c", "pp", "y", "near"}) {
            fault(2, HEAD + "call @" + name + " hour 1 times 1;");
        }
        fault(2, HEAD + "go @qq hour 1 at 0 0;person qq plain at 0 0 purse 0;");
        fault(2, HEAD + "call @cc hour 1 times 1;bird cc at 0 0;");
        run(HEAD + "person qq plain at 0 0 purse 0;go qq hour 1 at 1 0;go pp hour 1 at 2 0;bird cc at 0 0;call cc hour 1 times 1;")
                .due("place(1, 1) = 1", "place(0, 1) = 2", "calls(1, 1) = 1");
        // those of hills before are not told
        run(HEAD).faulty(2, "hills 4 3;go @pp hour 1 at 0 0;").faulty(2, "hills 4 3;call @bb hour 1 times 1;");
    }

    private static void toldAlready() {
        sentence(3, "3 a NAME told already");
        fault(3, HEAD + "person @pp deaf at 0 0 purse 0;");
        fault(3, HEAD + "bird @pp at 0 0;");
        // those of hills before are not told, nor those of a text with a fault
        run(HEAD).hills(HEAD.replace("pp", "ss").replace("bb", "pp").replace("ss", "bb")).due("count(2) = 1", "bird(0, 0) = 9");
        run(HEAD).faulty(1, "hills 2 2;person qq plain at 0 0 purse 0;@?").hills(HEAD + "person qq plain at 0 0 purse 0;").due("count(2) = 2");
    }

    private static void toldHours() {
        sentence(3, "the hour of go or call that is told for that one");
        String two = HEAD + "person qq plain at 0 0 purse 0;bird cc at 0 0;";
        for (int hour : new int[] {1, 2, 12, 22, 23}) {
            fault(3, two + "go pp hour " + hour + " at 1 1;go pp hour @" + hour + " at 1 1;");
            fault(3, two + "call bb hour " + hour + " times 1;call bb hour @" + hour + " times 1;");
            fine(two + "go pp hour " + hour + " at 1 1;go qq hour " + hour + " at 1 1;");
            fine(two + "call bb hour " + hour + " times 1;call cc hour " + hour + " times 1;");
        }
        fault(3, two + "call cc hour 0 times 1;call bb hour 0 times 1;call cc hour @0 times 9;");
        // those of hills before, and of a text with a fault, are not told
        run(two + "go pp hour 3 at 1 1;").faulty(1, two + "go pp hour 5 at 1 1;call bb hour 5 times 1;@?")
                .hills(two + "go pp hour 3 at 2 2;go pp hour 5 at 1 1;call bb hour 5 times 1;").due("place(0, 3) = 18", "calls(0, 5) = 1");
    }

    private static void secondTime() {
        sentence(3, "owe, fog, hear a second time");
        for (String law : LAWS) {
            fault(3, HEAD + law + " 1;@" + law + " 1;");
            fault(3, HEAD + law + " 1;bird cc at 0 0;@" + law);
        }
        fault(3, HEAD + "hear 1;@hear 1;");
        fault(3, HEAD + "hear 1;bird cc at 0 0;@hear");
        fine(HEAD + "hear 1;owe 1;fog 1;");
        // those of hills before, and of a text with a fault, are no first time
        run(HEAD + "owe 1;fog 1;hear 1;").faulty(1, HEAD + "owe 1;fog 1;hear 1;@?").hills(HEAD + "owe 1;fog 1;hear 1;").due("count(2) = 1");
    }

    private static void numberNotAsTold() {
        sentence(3, "4 a NUMBER that is not as told");
        fault(4, "hills @1 2;");
        fault(4, "hills 2 @9;");
        fault(4, HEAD + "person qq plain at @4 0 purse 0;");
        fault(4, HEAD + "person qq plain at 0 @3 purse 0;");
        fault(4, HEAD + "go pp hour @0 at 0 0;");
        fault(4, HEAD + "go pp hour 1 at @4 0;");
        fault(4, HEAD + "go pp hour 1 at 0 @3;");
        fault(4, HEAD + "bird cc at @4 0;");
        fault(4, HEAD + "bird cc at 0 @3;");
        fault(4, HEAD + "call bb hour @24 times 1;");
        fault(4, HEAD + "call bb hour 0 times @0;");
        fault(4, HEAD + "hear @15;");
        // any NUMBER is as told in an E, and in a purse
        fine(HEAD + "owe 9999;fog 0;person qq plain at 0 0 purse 9999;");
    }

    private static void oneTooMany() {
        sentence(3, "5 one too many: the words person of a seventh, go of a 21st, bird of a sixth, call of a 31st");
        String[] full = {people(6), goes(20), birds(5), calls(30)};
        String[] words = {"person", "go", "bird", "call"};
        for (int i = 0; i < full.length; i++) {
            fine(full[i]);
            fault(5, full[i] + "@" + words[i]);
            fault(5, full[i] + "@" + words[i] + " ?");
            fault(5, full[i] + "hear 1;@" + words[i] + " hills");
            fault(1, full[i] + "@" + words[i] + "x");
        }
        // a text with a fault counts for nothing in the next one
        run(people(6)).faulty(5, goes(20) + "@go").hills(goes(20)).faulty(5, calls(30) + "@call").hills(calls(30)).due("count(4) = 30");
    }

    private static void partTooDeep() {
        sentence(3, "not, or a PART, within 5 others.");
        String[] four = {"not not not not ", "((((", "not(not(", "(not(not ", "1+((((", "1*not not((", "1 and(1+(1*(1<(", "(1)*((((", "(1+(1+(2)*(3*("};
        for (String outer : four) {
            law(1, outer + "@;");
            law(5, outer + "(@1");
            law(5, outer + "not @1");
            law(5, outer + "not @not");
            law(5, outer + "not @(");
            law(5, outer + "(@not");
            law(5, outer + "(@(");
            law(5, outer + "(@hour");
            fault(1, HEAD + "owe " + outer + "1@");
        }
    }

    // ---- what holds then

    private static void from() {
        sentence(3, "Without a FAULT it is the HILLS from then on: nobody is asked to stand anywhere, nothing is told of debts, nothing can be undone, no MARK is there.");
        String text = "hills 5 4;person a plain at 0 0 purse 3;person b deaf at 1 0 purse 4;bird c at 0 0;bird d at 0 1;call c hour 2 times 3;";
        Run run = run(text).first("told(0, 3)", "told(1, 0)", "mark(0, false)", "mark(1, false)", "call(1, 7, 9)", "shoot(0, true)",
                "call(0, 2, 0)", "mark(2, false)", "mark(3, false)");
        run.due("count(4) = 1", "count(5) = 1", "count(6) = 2", "count(7) = 3");
        run.hills(text).due("count(4) = 1", "count(5) = 0", "count(6) = 0", "count(7) = 0", "undo() = false", "calls(0, 2) = 3",
                "calls(1, 7) = 0", "bird(0, 1) = 0", "wooden(0) = 4", "sang(2) = 36", "mark(0, true) = false", "mark(1, true) = false",
                "mark(2, true) = false", "mark(3, true) = false", "balance(0) = -3");
        run.hills("hills 2 2;").due("count(0) = 2", "count(1) = 2", "count(2) = 0", "count(3) = 0", "count(4) = 0", "person(0, 0) = -1",
                "bird(0, 0) = -1", "calls(0, 2) = -1", "netted() = 0", "june(0) = -2");
        // other laws hold for the same hour, cells and times
        String law = "hills 5 4;person a plain at 4 3 purse 3;person b deaf at 4 3 purse 4;bird c at 0 0;call c hour 23 times 3;owe far + times;fog 0;";
        run.hills(law).due("entry(0, 23, 0, false) = 30").hills(law.replace("far + times", "far + 4")).due("entry(0, 23, 0, false) = 33");
        run.hills(law.replace("b deaf at 4 3", "b deaf at 3 3")).due("entry(0, 23, 0, true) = -1").hills(law.replace("b deaf at 4 3", "b deaf at 3 3").replace("fog 0", "fog 1"))
                .due("entry(0, 23, 0, true) = 1");
        // fewer people and birds than before, then as many again: nothing of the first comes back
        run.hills(text.replace("plain", "shy").replace(";call c hour 2 times 3;", ";call d hour 0 times 1;"))
                .due("calls(0, 2) = 0", "calls(1, 0) = 1", "count(4) = 1", "person(0, 0) = 4", "count(6) = 0");
        run.hills("hills 5 4;person a plain at 2 3 purse 0;").due("place(0, 23) = 26", "person(0, 0) = 0", "person(0, 1) = 0", "person(1, 0) = -1");
    }

    private static void stays() {
        sentence(3, "The TAPE is read as HILLS: 0, or its FAULT (all stays then).");
        Run run = run("hills 5 4;person a plain at 0 0 purse 3;person b deaf at 1 0 purse 4;go a hour 5 at 4 3;bird c at 0 0;bird d at 0 1;"
                + "call c hour 2 times 3;call d hour 6 times 1;owe 2 + far;fog 9;hear 8;");
        run.first("told(0, 6)", "mark(0, false)", "call(1, 7, 9)", "shoot(0, true)", "call(0, 3, 4)", "mark(3, false)", "told(1, 0)", "shoot(0, false)");
        run.due("count(7) = 4", "count(6) = 2", "netted() = 94");
        String other = "hills 8 8;person z rich at 7 7 purse 9;bird y at 7 7;call y hour 2 times 9;owe 50;fog 0;hear 0;";
        run.faulty(1, "@").faulty(1, "@?").faulty(1, other + "@?").faulty(1, other + "bird v @");
        run.faulty(4, "hills 3 @1;").faulty(3, other + "@owe 2;").faulty(2, other + "go @y hour 1 at 0 0;").faulty(5, birds(5) + "@bird");
        run.faulty(5, "hills 2 2;owe (((((@1").faulty(3, other + "person @z plain at 0 0 purse 0;");
        run.hills(other).due("count(0) = 8", "count(2) = 1", "bird(0, 2) = 9", "count(7) = 0");
    }
}
