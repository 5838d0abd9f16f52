/** Each promise of the document by cases made by hand: ordinary ones, edges, wrong inputs. */
public final class PromisesTest {
    private static final String HEAD = "hills 4 3 ; person pp plain at 0 0 purse 1 ; bird bb at 1 1 ; ";
    private static final String[] RESERVED = {"hills", "person", "at", "purse", "go", "hour", "bird", "call", "times",
        "owe", "fog", "hear", "plain", "deaf", "child", "rich", "shy", "not", "and", "or"};
    private static final int[] STRAY = {-1, -2, 5, 6, 24, 99, Integer.MAX_VALUE, Integer.MIN_VALUE};

    private PromisesTest() {
    }

    public static void main(String[] args) {
        newObject();
        feed();
        hillsTokens();
        hillsLines();
        hillsNames();
        hillsTooMany();
        hillsLaws();
        hillsChange();
        values();
        longLaws();
        manyAnswers();
        reachOfFog();
        people();
        places();
        birdsAndCalls();
        entries();
        kinds();
        owedAndBalance();
        callByHand();
        shoot();
        undo();
        stand();
        played();
        playedLong();
        picnic();
        netted();
        without();
        told();
        songs();
        wooden();
        june();
        marks();
        count();
        Check.end("PromisesTest");
    }

    private static void due(String what, Object got, Object want) {
        Check.due(what, got, want);
    }

    /** A text with its fault: @ stands before the token that is wrong, and is not fed. */
    private static void fault(int kind, String text) {
        int place = text.indexOf('@');
        CuckooDebt x = new CuckooDebt();
        due(text, Check.read(x, text.replace("@", "")), kind + 16 * place);
        due("tape behind " + text, x.count(8), 0);
        due("wide behind " + text, x.count(0), 2);
        due("people behind " + text, x.count(2), 0);
    }

    private static void fine(String text) {
        due(text, Check.read(new CuckooDebt(), text), 0);
    }

    // ---- 1, 25

    private static void newObject() {
        CuckooDebt x = new CuckooDebt();
        int[] counts = {2, 2, 0, 0, 0, 0, 0, 0, 0};
        for (int i = 0; i < counts.length; i++) {
            due("new count " + i, x.count(i), counts[i]);
        }
        due("new person", x.person(0, 0), -1);
        due("new place", x.place(0, 0), -1);
        due("new bird", x.bird(0, 0), -1);
        due("new calls", x.calls(0, 0), -1);
        due("new entry", x.entry(0, 0, 0, false), -1);
        due("new owed", x.owed(0, 1), -1);
        due("new balance", Check.answer(() -> x.balance(0)), Check.THROWS);
        due("new call", x.call(0, 0, 1), false);
        due("new shoot", x.shoot(0, true), false);
        due("new undo", x.undo(), false);
        due("new stand", Check.answer(() -> x.stand(0, 0, 0, 0)), Check.THROWS);
        due("new played", x.played(0, 23, 0), 1);
        due("new played rest", x.played(0, 23, 1), 1);
        due("new played who", x.played(0, 23, 2), -1);
        due("new picnic", Check.answer(() -> x.picnic(1, 0, 0, 0)), Check.THROWS);
        due("new picnic of none", Check.answer(() -> x.picnic(0, 0, 0, 0)), Check.THROWS);
        due("new netted", x.netted(), 0);
        due("new without", Check.answer(() -> x.without(0, 0)), Check.THROWS);
        due("new told", x.told(0, 1), false);
        due("new sang", x.sang(23), 1);
        due("new song", x.song(0, 0, 0), -1);
        due("new wooden", x.wooden(0), 1);
        due("new wooden least", x.wooden(1), 0);
        due("new june", x.june(-1), 0);
        due("new june who", x.june(0), -2);
        for (int mark = 0; mark < 4; mark++) {
            due("new mark", x.mark(mark, true), false);
        }
    }

    private static void count() {
        CuckooDebt x = Check.made("hills 7 3;person a plain at 0 0 purse 1;person b plain at 0 0 purse 1;bird c at 6 2;"
                + "call c hour 3 times 2;call c hour 4 times 9;");
        x.shoot(0, true);
        x.told(1, 5);
        x.call(0, 5, 1);
        x.call(0, 3, 1);
        Check.feed(x, "owe 1");
        int[] counts = {7, 3, 2, 1, 3, 1, 1, 3, 5};
        for (int i = 0; i < counts.length; i++) {
            due("count " + i, x.count(i), counts[i]);
        }
        for (int what : new int[] {-1, 9, 10, Integer.MAX_VALUE, Integer.MIN_VALUE}) {
            due("count " + what, x.count(what), -1);
        }
    }

    // ---- 2

    private static void feed() {
        CuckooDebt x = new CuckooDebt();
        due("the highest byte first", x.feed(0x68696c6c73203220L, 0x32203b0000000000L, 0), 11);
        due("hills in bytes", x.hills(), 0);
        due("signs left out", x.feed(0x00091f7f80ffa00bL, 0, -1L), 0);
        due("signs taken", x.feed(0x0a207e2100000000L, 0x1f41000000000000L, 0x4200000000000043L), 7);
        due("count of signs", x.count(8), 7);
        due("a fault's place in them", x.hills(), 1 + 16 * 2);
        due("order of the numbers", x.feed(0x68690000000000ffL, 0x6c6c000000000000L, 0x7320320a3320203bL), 12);
        due("hills in order", x.hills(), 0);
        due("deep", x.count(1), 3);
        CuckooDebt full = new CuckooDebt();
        for (int i = 1; i <= 41; i++) {
            due("feed " + i, full.feed(0x2020202020202020L, 0x2020202020202020L, 0x2020202020202020L), 24 * i);
        }
        due("up to 1000", full.feed(0x2020202020202020L, 0x2020202020202020L, 0x2020202020202020L), 1000);
        due("no more", full.feed(0x2020202020202020L, 0, 0), 1000);
        due("blank", full.hills(), 1 + 16 * 1000);
        String body = "hills 2 2" + " ".repeat(990);
        due("the last of 1000 signs", Check.read(new CuckooDebt(), body + ";"), 0);
        due("one beyond 1000", Check.read(new CuckooDebt(), body + " ;"), 1 + 16 * 1000);
        due("beyond 1000 is left out", Check.read(new CuckooDebt(), body + "; person"), 0);
    }

    // ---- 3

    private static void hillsTokens() {
        fault(1, "@");
        fault(1, " \n @");
        fault(1, "@person");
        fault(1, "@owe 1;");
        fault(1, "@;");
        fault(1, "hills 4 4 ; @hills 4 4 ;");
        fault(1, "hills 4 4 ; @;");
        fault(1, "hills 4 4 ; @cuckoo");
        fault(1, "hills 4 4 ; @4");
        fault(1, "hills @;");
        fault(1, "hills 4 @;");
        fault(1, "hills 4 4 @");
        fault(1, "hills 4 4   @");
        fault(1, "hills 4 4 @4 ;");
        fault(1, "@Hills 4 4 ;");
        fault(1, "@hillsx 4 4 ;");
        fault(1, "@hill 4 4 ;");
        fault(1, "hills @04444 4 ;");
        fault(1, "hills @00004 4 ;");
        fault(1, "hills 4 4@, ;");
        fault(1, "hills 4 4 ;@_");
        fault(1, "hills 4 4 ; person @abcdefghi plain");
        fault(1, "hills 4 4 ; person @abcdefghijklmnopqrstuvwxyz plain");
        fault(1, "hills 4 4 ; @personperson");
        fault(4, "hills @1 4 ;");
        fault(4, "hills @9 4 ;");
        fault(4, "hills 2 @1 ;");
        fault(4, "hills 2 @9 ;");
        fault(4, "hills @9999 x");
        fine("hills 0002 0008;");
        fine("hills 8 2;");
        fine("hills2 2;person abcdefgh plain at0 0purse 1;owe(1)and 2or 3;");
        fine("\nhills\n2\n2\n;\nperson\na\nplain\nat\n0\n0\npurse\n1\n;\n");
        fine("   hills 2 2 ;   ");
        fine("hills 2 2;bird a at 0 0;bird b at 0 0;call a hour 0 times 1;call b hour 0 times 1;");
    }

    private static void hillsLines() {
        String[] whole = {
            "person qq shy at 3 2 purse 9999 ;", "go pp hour 23 at 3 2 ;", "bird cc at 3 2 ;",
            "call bb hour 0 times 9 ;", "owe 1 ;", "fog 1 ;", "hear 14 ;",
        };
        for (String line : whole) {
            fine(HEAD + line);
            String[] tokens = line.split(" ");
            String before = HEAD;
            for (String token : tokens) {
                if (!before.equals(HEAD)) {
                    fault(1, before + "@");
                }
                fault(1, before + "@)");
                fault(1, before + "@ABC");
                fault(1, before + "@00000");
                before += token + " ";
            }
        }
        fault(4, HEAD + "person qq plain at @4 9");
        fault(4, HEAD + "person qq plain at 3 @3");
        fault(1, HEAD + "person qq plain at 3 @x");
        fault(1, HEAD + "person qq @old");
        fault(1, HEAD + "person qq @hear");
        fault(1, HEAD + "person qq @not");
        fault(1, HEAD + "person qq plain at 3 2 purse @10000");
        fault(4, HEAD + "go pp hour @0");
        fault(4, HEAD + "go pp hour @24");
        fault(3, HEAD + "go pp hour 5 at 0 0 ; go pp hour @5");
        fault(4, HEAD + "go pp hour 5 at @4 0");
        fault(4, HEAD + "go pp hour 5 at 0 @3");
        fine(HEAD + "go pp hour 5 at 0 0 ; go pp hour 1 at 1 0 ; person qq plain at 0 0 purse 0 ; go qq hour 5 at 1 1 ;");
        fault(4, HEAD + "bird cc at @4 0");
        fault(4, HEAD + "bird cc at 0 @3");
        fault(4, HEAD + "call bb hour @24");
        fault(3, HEAD + "call bb hour 23 times 1 ; call bb hour @23");
        fault(4, HEAD + "call bb hour 0 times @0");
        fault(4, HEAD + "call bb hour 0 times @10");
        fault(4, HEAD + "hear @15");
        fine(HEAD + "hear 0 ;");
        fault(3, HEAD + "owe 1 ; @owe");
        fault(3, HEAD + "fog 1 ; @fog");
        fault(3, HEAD + "hear 1 ; @hear");
        fine(HEAD + "hear 1 ; fog 1 ; owe 1 ;");
    }

    private static void hillsNames() {
        for (String word : RESERVED) {
            fault(1, HEAD + "person @" + word);
            fault(1, HEAD + "bird @" + word);
            fault(1, HEAD + "go @" + word);
            fault(1, HEAD + "call @" + word);
        }
        for (String word : new String[] {"far", "near", "x", "y", "a", "ppp", "abcdefgh", "hillsx", "ors"}) {
            fine(HEAD + "person " + word + " plain at 0 0 purse 0 ; go " + word + " hour 1 at 1 1 ;");
            fine(HEAD + "bird " + word + " at 0 0 ; call " + word + " hour 1 times 1 ;");
            fault(2, HEAD + "go @" + word);
            fault(2, HEAD + "call @" + word);
        }
        fine(HEAD + "person q plain at 0 0 purse 0 ; person aa plain at 0 0 purse 0 ; bird ba at 0 0 ; bird zzzzzzzz at 0 0 ; bird zzzzzzz at 0 0 ;");
        fault(3, HEAD + "bird zzzzzzzz at 0 0 ; bird zzzzzzzy at 0 0 ; person @zzzzzzzz");
        fault(3, HEAD + "person @pp");
        fault(3, HEAD + "person @bb");
        fault(3, HEAD + "bird @pp");
        fault(3, HEAD + "bird @bb");
        fault(2, HEAD + "go @bb");
        fault(2, HEAD + "call @pp");
        fault(1, HEAD + "go @1");
        fault(1, HEAD + "call @;");
        fault(1, HEAD + "person @1");
        fault(1, HEAD + "bird @(");
        fault(2, "hills 2 2 ; go @pp hour 1 at 0 0 ; person pp plain at 0 0 purse 0 ;");
    }

    private static void hillsTooMany() {
        StringBuilder people = new StringBuilder("hills 2 2;");
        for (int i = 0; i < 6; i++) {
            people.append("person a").append((char) ('a' + i)).append(" plain at 0 0 purse 0;");
        }
        fine(people.toString());
        fault(5, people + "@person");
        fault(5, people + "@person aa");
        StringBuilder birds = new StringBuilder("hills 2 2;");
        for (int i = 0; i < 5; i++) {
            birds.append("bird a").append((char) ('a' + i)).append(" at 0 0;");
        }
        fine(birds.toString());
        fault(5, birds + "@bird ;");
        StringBuilder goes = new StringBuilder("hills 2 2;person a plain at 0 0 purse 0;");
        for (int i = 1; i <= 20; i++) {
            goes.append("go a hour ").append(i).append(" at 0 0;");
        }
        fine(goes.toString());
        fault(5, goes + "@go zz");
        StringBuilder calls = new StringBuilder("hills 2 2;bird a at 0 0;bird b at 0 0;");
        for (int i = 0; i < 30; i++) {
            calls.append("call ").append((char) ('a' + i / 24)).append(" hour ").append(i % 24).append(" times 1;");
        }
        fine(calls.toString());
        fault(5, calls + "@call a hour 0");
    }

    private static void hillsLaws() {
        String[] facts = {"hour", "far", "near", "times", "x", "y"};
        for (int i = 0; i < facts.length; i++) {
            law("owe", i < 4 ? 0 : 1, "@" + facts[i]);
            law("fog", i == 0 || i > 3 ? 0 : 1, "@" + facts[i]);
        }
        for (String law : new String[] {"owe", "fog"}) {
            law(law, 0, "9999 + 0 - 1 * 2 < 3 and not 4 = 5 or 6");
            law(law, 1, "@;");
            law(law, 1, "@)");
            law(law, 1, "@pp");
            law(law, 1, "@- 1");
            law(law, 1, "@and");
            law(law, 1, "1 @2");
            law(law, 1, "1 @hour");
            law(law, 1, "1 @not 1");
            law(law, 1, "1 @( 1");
            law(law, 1, "1 + @+ 1");
            law(law, 1, "1 * @;");
            law(law, 1, "1 < @");
            law(law, 1, "1 and @or");
            law(law, 1, "not @;");
            law(law, 1, "not @and");
            law(law, 1, "( @)");
            law(law, 1, "( 1 @;");
            law(law, 1, "( 1 @");
            law(law, 1, "1 @)");
            law(law, 1, "( 1 ) @)");
            law(law, 1, "1 < 2 @< 3");
            law(law, 1, "1 < 2 @= 3");
            law(law, 1, "1 = 2 @< 3");
            law(law, 1, "( 1 = 2 @= 3");
            law(law, 0, "( 1 < 2 ) < 3");
            law(law, 0, "1 < 2 and 3 < 4 or 5 = 6");
            law(law, 1, "@10000");
            law(law, 0, "not not not not 1");
            law(law, 5, "not not not not not @1");
            law(law, 5, "not not not not not @not");
            law(law, 5, "not not not not not @(");
            law(law, 5, "not not not not not @hour");
            law(law, 1, "not not not not not @)");
            law(law, 1, "not not not not not @and");
            law(law, 1, "not not not not not @pp");
            law(law, 1, "not not not not not @00000");
            law(law, 0, "((((1))))");
            law(law, 5, "(((((@1");
            law(law, 5, "(((((@(");
            law(law, 5, "(((((@not");
            law(law, 1, "(((((@)");
            law(law, 1, "(((((@;");
            law(law, 5, "(not(not(@hour");
            law(law, 0, "(not(not 1))*(((1 + not 2)))");
            law(law, 0, "((((1)+(1))))+((1)*not(not 1))");
            law(law, 5, "((((1)+(1))))+((1)*not(not(@1)))");
            law(law, 5, "1+2*3<((((1+(@1");
        }
        law("owe", 1, "(((((@x");
        law("fog", 1, "(((((@far");
    }

    private static void law(String law, int kind, String text) {
        String whole = HEAD + law + " " + text;
        if (kind == 0) {
            fine(whole.replace("@", "") + " ;");
        } else {
            fault(kind, whole);
        }
    }

    private static void hillsChange() {
        CuckooDebt x = Check.made(HEAD + "call bb hour 3 times 2 ;");
        x.call(0, 4, 5);
        x.shoot(0, true);
        x.told(0, 7);
        x.mark(2, false);
        due("a fault", Check.read(x, "hills 8 8 ; person zz deaf at 7 7 purse 5 ; owe 5 ; x"), 1 + 16 * 52);
        int[] counts = {4, 3, 1, 1, 2, 1, 1, 2, 0};
        for (int i = 0; i < counts.length; i++) {
            due("all stays, count " + i, x.count(i), counts[i]);
        }
        due("kind stays", x.person(0, 0), 0);
        due("purse stays", x.person(0, 1), 1);
        due("place stays", x.place(0, 23), 0);
        due("bush stays", x.bird(0, 0), 9);
        due("call stays", x.calls(0, 4), 5);
        due("the mark stays", x.mark(2, true), true);
        x.call(0, 6, 1);
        due("new hills", Check.read(x, HEAD + "call bb hour 5 times 1 ;"), 0);
        int[] anew = {4, 3, 1, 1, 1, 0, 0, 0, 0};
        for (int i = 0; i < anew.length; i++) {
            due("anew, count " + i, x.count(i), anew[i]);
        }
        due("no mark", x.mark(2, true), false);
        due("no undo", x.undo(), false);
        due("its call", x.calls(0, 5), 1);
        due("no other", x.calls(0, 4), 0);
        due("hills alone", Check.read(x, "hills 2 3;"), 0);
        due("nobody", x.count(2), 0);
        due("no bird", x.count(3), 0);
        due("no call", x.count(4), 0);
    }

    // ---- what an E comes to

    private static void values() {
        value("1 + 2 * 3", 7);
        value("( 1 + 2 ) * 3", 9);
        value("2 * 3 + 1", 7);
        value("9 - 2 - 1", 6);
        value("9 - ( 2 - 1 )", 8);
        value("2 * 3 * 4 - 1", 23);
        value("not 0", 1);
        value("not 5", 0);
        value("not 0 * 5", 5);
        value("not ( 0 * 5 ) + 3", 4);
        value("not not 7", 1);
        value("1 < 2", 1);
        value("2 < 2", 0);
        value("3 < 2", 0);
        value("2 = 2", 1);
        value("2 = 3", 0);
        value("1 + 1 = 2", 1);
        value("2 < 1 + 2", 1);
        value("5 and 3", 1);
        value("5 and 0", 0);
        value("0 and 5", 0);
        value("0 - 1 and 0 - 1", 1);
        value("5 or 0", 1);
        value("0 or 5", 1);
        value("0 or 0", 0);
        value("1 or 0 and 0", 0);
        value("0 and 0 or 1", 1);
        value("1 < 2 and 2 < 3", 1);
        value("( 1 or 1 ) + 6", 7);
        value("0", 0);
        value("0 - 5", 0);
        value("98", 98);
        value("99", 99);
        value("100", 99);
        value("9999", 99);
        value("0007", 7);
        value("4096 * 4096 * 256 + 7", 7);
        value("2048 * 1024 * 1024", 0);
        value("2048 * 1024 * 1024 - 1", 99);
        value("2048 * 1024 * 1024 < 0", 1);
        value("hour", 5);
        value("far", 3);
        value("near", 2);
        value("times", 1);
        value("hour * 10 + far * 3 - near + times", 58);
        value("1+".repeat(80) + "1", 81);
        value("1 = 1 + 1 * 1", 0);
        String waiting = "0 or 1 = 0 + 1 * ";
        value(waiting + "(" + waiting + "(" + waiting + "(" + waiting + "(" + waiting + "1))))", 1);
        value(waiting + "(" + waiting + "(" + waiting + "(" + waiting + "(" + waiting + "2))))", 0);
        value("far = 3 and near = 2 and hour = 5 and times = 1", 1);
    }

    /** As long a law as a tape can hold, and many of them one after the other. */
    private static void longLaws() {
        String head = "hills 2 2;person a plain at 0 0 purse 0;person b deaf at 0 0 purse 0;bird c at 0 0;call c hour 0 times 1;";
        CuckooDebt x = new CuckooDebt();
        for (int i = 0; i < 5; i++) {
            String start = head + "owe " + (90 + i);
            int pairs = (1000 - start.length() - 1) / 2;
            String text = start + "+1-1".repeat(pairs / 2) + (pairs % 2 == 1 ? "+2" : "") + ";";
            due("signs", text.length() > 998 && text.length() <= 1000, true);
            due("a long law", Check.read(x, text), 0);
            due("what it comes to", x.entry(0, 0, 0, false), 90 + i + (pairs % 2 == 1 ? 2 : 0));
            String fog = head + "owe 5" + "*1".repeat(200) + ";fog 1" + "-0".repeat(200) + ";";
            due("two long laws", Check.read(x, fog), 0);
            due("what owe comes to", x.entry(0, 0, 0, false), 5);
        }
    }

    /** Laws are asked anew for each far, near, times and hour, and for each text. */
    private static void manyAnswers() {
        for (String law : new String[] {"far", "near", "times", "hour", "far * 3 + near * 2 + times + hour"}) {
            CuckooDebt x = new CuckooDebt();
            Oracle oracle = new Oracle();
            String text = "hills 8 8;person a plain at 0 0 purse 0;person b plain at 7 7 purse 0;person c plain at 0 1 purse 0;"
                    + "person d deaf at 7 7 purse 0;go b hour 6 at 0 0;go d hour 6 at 7 7;go c hour 6 at 7 6;go a hour 12 at 7 7;go c hour 12 at 6 7;"
                    + "bird k at 0 0;bird l at 7 7;bird m at 3 4;owe " + law + ";";
            tellBoth(x, oracle, text);
            for (int hour = 0; hour < 24; hour += 3) {
                for (int bird = 0; bird < 3; bird++) {
                    for (int times : new int[] {9, 1, 5}) {
                        due("call", x.call(bird, hour, times), oracle.call(bird, hour, times));
                        for (int person = 0; person < 4; person++) {
                            due("entry by " + law, x.entry(bird, hour, person, false), oracle.entry(bird, hour, person, false));
                        }
                    }
                }
            }
            tellBoth(x, oracle, text.replace("owe ", "owe 1 + ") + "call k hour 0 times 9;fog hour+1;");
            for (int person = 0; person < 4; person++) {
                due("entry by other hills", x.entry(0, 0, person, false), oracle.entry(0, 0, person, false));
                due("entry by other hills", x.entry(0, 0, person, true), oracle.entry(0, 0, person, true));
            }
        }
        // in one hour by one number of times: 14 from the other and 3 from the bush, 0 and 4
        CuckooDebt x = Check.made("hills 8 8;person a plain at 0 0 purse 0;person b deaf at 7 7 purse 0;bird k at 3 0;bird l at 3 7;"
                + "call k hour 0 times 1;call l hour 0 times 1;owe far + near;");
        due("3 + 14", x.entry(0, 0, 0, false), 17);
        due("10 + 14", x.entry(1, 0, 0, false), 24);
        CuckooDebt y = Check.made("hills 8 8;person a plain at 0 0 purse 0;person b plain at 7 7 purse 0;person c plain at 7 7 purse 0;"
                + "go a hour 1 at 4 0;go b hour 1 at 4 0;bird k at 3 0;bird l at 3 7;bird m at 4 6;call m hour 0 times 1;call l hour 0 times 1;call k hour 0 times 1;owe far + near;");
        due("10 from m, 14 from b", y.entry(2, 0, 0, false), 24);
        due("11 from k, 0 from c", y.entry(0, 0, 1, false), 11);
        due("3 from k, 14 from b", y.entry(0, 0, 0, false), 17);
        due("4 from l, 0 from c", y.entry(1, 0, 1, false), 4);
    }

    private static void tellBoth(CuckooDebt x, Oracle oracle, String text) {
        for (int from = 0; from < text.length(); from += 24) {
            long[] bytes = Check.packed(text, from);
            due("feed", x.feed(bytes[0], bytes[1], bytes[2]), oracle.feed(bytes[0], bytes[1], bytes[2]));
        }
        due(text, x.hills(), 0);
        due(text, oracle.hills(), 0);
    }

    /** One who stands 3 from the bush and 2 from the other, in hour 5. */
    private static void value(String law, int want) {
        CuckooDebt x = Check.made("hills 8 8 ; person a plain at 1 2 purse 0 ; person b deaf at 1 4 purse 0 ;"
                + "bird c at 3 1 ; call c hour 5 times 1 ; owe " + law + " ;");
        due("value of " + law, x.entry(0, 5, 0, false), want);
    }

    private static void reachOfFog() {
        reach("0", 0, 1);
        reach("0", 1, -1);
        reach("1", 1, 1);
        reach("1", 2, -1);
        reach("2", 2, 1);
        reach("0 - 3", 1, -1);
        reach("0 - 3", 0, 1);
        reach("9999", 14, 1);
        reach("hour", 7, 1);
        reach("hour", 8, -1);
        reach("x", 0, 1);
        reach("x", 1, -1);
        reach("2048 * 1024 * 1024", 1, -1);
        due("without fog", reached("", 14), 1);
        CuckooDebt x = Check.made("hills 8 8;person a plain at 3 1 purse 0;person b plain at 3 3 purse 0;bird c at 0 0;"
                + "call c hour 0 times 1;fog y;");
        due("fog by one's own y", x.entry(0, 0, 0, true), -1);
        due("fog by one's own y", x.entry(0, 0, 1, true), 0);
        due("fog by one's own x", Check.read(x, "hills 8 8;person a plain at 1 3 purse 0;person b plain at 3 3 purse 0;"
                + "bird c at 0 0;call c hour 0 times 1;fog x;"), 0);
        due("x", x.entry(0, 0, 0, true), -1);
        due("x", x.entry(0, 0, 1, true), 0);
    }

    private static void reach(String law, int away, int want) {
        due("fog " + law + " at " + away, reached("fog " + law + ";", away), want);
    }

    private static int reached(String fog, int away) {
        int x = Math.min(away, 7);
        CuckooDebt hills = Check.made("hills 8 8;person a plain at 0 0 purse 0;person b deaf at " + x + " " + (away - x)
                + " purse 0;bird c at 4 4;call c hour 7 times 1;" + fog);
        return hills.entry(0, 7, 0, true);
    }

    // ---- 4 to 7

    private static void people() {
        CuckooDebt x = Check.made("hills 2 2;person a plain at 0 0 purse 0;person b deaf at 0 0 purse 1;"
                + "person c child at 0 0 purse 22;person d rich at 0 0 purse 333;person e shy at 0 0 purse 9999;");
        int[] purses = {0, 1, 22, 333, 9999};
        for (int i = 0; i < 5; i++) {
            due("kind " + i, x.person(i, 0), i);
            due("purse " + i, x.person(i, 1), purses[i]);
            due("what 2", x.person(i, 2), -1);
            due("what -1", x.person(i, -1), -1);
        }
        for (int stray : STRAY) {
            due("person " + stray, x.person(stray, 0), -1);
            due("person " + stray, x.person(stray, 1), -1);
        }
    }

    private static void places() {
        CuckooDebt x = Check.made("hills 8 8;person a plain at 7 6 purse 0;person b plain at 1 2 purse 0;"
                + "go a hour 12 at 0 7;go a hour 5 at 3 0;go b hour 1 at 5 5;go a hour 23 at 7 7;");
        int[] hours = {0, 4, 5, 11, 12, 22, 23};
        int[] cells = {55, 55, 3, 3, 56, 56, 63};
        for (int i = 0; i < hours.length; i++) {
            due("place in hour " + hours[i], x.place(0, hours[i]), cells[i]);
        }
        due("the other at first", x.place(1, 0), 17);
        due("the other then", x.place(1, 1), 45);
        due("the other at last", x.place(1, 23), 45);
        for (int stray : STRAY) {
            due("place of " + stray, x.place(stray, 0), -1);
        }
        due("hour 24", x.place(0, 24), -1);
        due("hour -1", x.place(0, -1), -1);
        due("person 2", x.place(2, 0), -1);
    }

    private static void birdsAndCalls() {
        CuckooDebt x = Check.made("hills 8 8;bird a at 7 0;bird b at 1 6;call a hour 0 times 9;call a hour 23 times 8;call b hour 1 times 1;");
        due("bush", x.bird(0, 0), 7);
        due("bush", x.bird(1, 0), 49);
        due("calls of the day", x.bird(0, 2), 17);
        due("calls of the day", x.bird(1, 2), 1);
        due("not shot", x.bird(1, 1), 0);
        x.shoot(1, true);
        due("shot", x.bird(1, 1), 1);
        due("the other is not", x.bird(0, 1), 0);
        due("calls of one that is shot", x.bird(1, 2), 1);
        due("what 3", x.bird(0, 3), -1);
        due("what -1", x.bird(0, -1), -1);
        due("calls", x.calls(0, 0), 9);
        due("calls", x.calls(0, 23), 8);
        due("none", x.calls(0, 1), 0);
        due("of one that is shot", x.calls(1, 1), 1);
        due("hour 24", x.calls(0, 24), -1);
        due("hour -1", x.calls(0, -1), -1);
        for (int stray : STRAY) {
            due("bird " + stray, x.bird(stray, 0), -1);
            due("calls of " + stray, x.calls(stray, 0), -1);
        }
        due("bird 2", x.bird(2, 0), -1);
        due("calls of bird 2", x.calls(2, 0), -1);
    }

    // ---- 8 to 10

    private static void entries() {
        CuckooDebt x = Check.made("hills 8 2;person a plain at 2 0 purse 0;person b deaf at 0 0 purse 0;"
                + "person c plain at 4 0 purse 0;person d plain at 7 1 purse 0;go d hour 6 at 2 1;"
                + "bird k at 2 0;call k hour 5 times 3;call k hour 6 times 1;owe far+near;hear 2;");
        due("of equal ones the least", x.entry(0, 5, 0, true), 1);
        due("its pence", x.entry(0, 5, 0, false), 6);
        due("the deaf owe nobody", x.entry(0, 5, 1, true), -1);
        due("the deaf owe nothing", x.entry(0, 5, 1, false), 0);
        due("just within hearing", x.entry(0, 5, 2, true), 0);
        due("its pence", x.entry(0, 5, 2, false), 12);
        due("too far to hear", x.entry(0, 5, 3, true), -1);
        due("too far to hear", x.entry(0, 5, 3, false), 0);
        due("moved by the hour", x.entry(0, 6, 0, true), 3);
        due("moved by the hour", x.entry(0, 6, 3, true), 0);
        due("no calls", x.entry(0, 7, 0, true), -1);
        due("no calls", x.entry(0, 7, 0, false), 0);
        x.shoot(0, true);
        due("shot", x.entry(0, 5, 0, true), -1);
        due("shot", x.entry(0, 5, 0, false), 0);
        for (int stray : STRAY) {
            due("bird " + stray, x.entry(stray, 5, 0, false), -1);
            due("person " + stray, x.entry(0, 5, stray, false), -1);
            due("person " + stray, x.entry(0, 5, stray, true), -1);
        }
        due("hour 24", x.entry(0, 24, 0, false), -1);
        due("hour -1", x.entry(0, -1, 0, false), -1);
        CuckooDebt alone = Check.made("hills 2 2;person a plain at 0 0 purse 0;bird k at 0 0;call k hour 0 times 1;");
        due("alone", alone.entry(0, 0, 0, true), -1);
        due("alone", alone.entry(0, 0, 0, false), 0);
    }

    private static void kinds() {
        String[] names = {"plain", "deaf", "child", "rich", "shy"};
        int[] near = {15, 0, 7, 30, 15};
        int[] away = {15, 0, 7, 30, 0};
        for (int i = 0; i < names.length; i++) {
            due(names[i] + " at 2", kindPence(names[i], 2, "5", 3), near[i]);
            due(names[i] + " at 3", kindPence(names[i], 3, "5", 3), away[i]);
        }
        due("99 at most before all else", kindPence("rich", 1, "500", 9), 1782);
        due("half of the whole", kindPence("child", 1, "1", 3), 1);
        due("half of 99 * 9", kindPence("child", 1, "99", 9), 445);
        due("0 at least", kindPence("rich", 1, "0 - 1", 9), 0);
        CuckooDebt x = Check.made("hills 8 2;person a shy at 0 0 purse 0;person b plain at 3 0 purse 0;bird k at 0 0;call k hour 0 times 1;");
        due("a shy one's creditor", x.entry(0, 0, 0, true), 1);
        due("without owe", x.entry(0, 0, 1, false), 1);
    }

    private static int kindPence(String kind, int away, String owe, int times) {
        CuckooDebt x = Check.made("hills 8 2;person a " + kind + " at 0 0 purse 0;person b deaf at " + away
                + " 0 purse 0;bird k at 0 0;call k hour 0 times " + times + ";owe " + owe + ";");
        return x.entry(0, 0, 0, false);
    }

    /** a, b and c in a row; c nearer to b; two birds; b goes to c's far side in hour 9. */
    private static CuckooDebt threePeople() {
        return Check.made("hills 8 2;person a plain at 0 0 purse 10;person b plain at 3 0 purse 2;person c rich at 5 0 purse 0;"
                + "go b hour 9 at 1 0;bird k at 0 0;bird l at 7 1;call k hour 8 times 2;call l hour 8 times 1;"
                + "call k hour 9 times 1;owe far + 1;");
    }

    private static void owedAndBalance() {
        CuckooDebt x = threePeople();
        // hour 8: k: a 2 to b, b 8 to c, c 24 to b; l: a 9 to b, b 6 to c, c 8 to b; hour 9: a 1 to b, b 2 to a, c 12 to b
        int[][] owed = {{-1, 12, 0}, {2, -1, 14}, {0, 44, -1}};
        int[] balance = {-10, 40, -30};
        for (int p = 0; p < 3; p++) {
            for (int q = 0; q < 3; q++) {
                due("owed " + p + " " + q, x.owed(p, q), owed[p][q]);
            }
            due("balance " + p, x.balance(p), balance[p]);
        }
        x.shoot(1, true);
        due("owed without l", x.owed(0, 1), 3);
        due("balance without l", x.balance(1), 29);
        for (int stray : STRAY) {
            due("owed by " + stray, x.owed(stray, 0), -1);
            due("owed to " + stray, x.owed(0, stray), -1);
            due("balance " + stray, Check.answer(() -> x.balance(stray)), Check.THROWS);
        }
        due("balance 3", Check.answer(() -> x.balance(3)), Check.THROWS);
        due("owed by 3", x.owed(3, 0), -1);
        due("owed to 3", x.owed(0, 3), -1);
    }

    // ---- 11 to 13

    private static void callByHand() {
        CuckooDebt x = threePeople();
        due("it is so", x.call(0, 8, 2), false);
        due("it is not", x.call(0, 10, 0), false);
        due("more times", x.call(0, 8, 9), true);
        due("calls then", x.calls(0, 8), 9);
        due("debts then", x.entry(0, 8, 1, false), 36);
        due("ten times", x.call(0, 8, 10), false);
        due("below 0", x.call(0, 8, -1), false);
        due("bird 2", x.call(2, 8, 1), false);
        due("bird -1", x.call(-1, 8, 1), false);
        due("hour 24", x.call(0, 24, 1), false);
        due("hour -1", x.call(0, -1, 1), false);
        for (int stray : STRAY) {
            due("bird " + stray, x.call(stray, 0, 1), false);
        }
        due("none any more", x.call(0, 8, 0), true);
        due("calls then", x.calls(0, 8), 0);
        due("count then", x.count(4), 2);
        due("undoable", x.count(7), 2);
        x.shoot(1, true);
        due("of one that is shot", x.call(1, 3, 4), true);
        due("it makes nothing", x.entry(1, 3, 0, false), 0);
        full();
    }

    private static void full() {
        StringBuilder text = new StringBuilder("hills 2 2;bird a at 0 0;bird b at 0 0;");
        for (int i = 0; i < 23; i++) {
            text.append("call a hour ").append(i).append(" times 1;");
        }
        CuckooDebt x = Check.made(text.toString());
        for (int i = 0; i < 7; i++) {
            due("up to 30", x.call(1, i, 1), true);
        }
        due("30", x.count(4), 30);
        due("a 31st", x.call(1, 7, 1), false);
        due("a 31st of the other", x.call(0, 23, 1), false);
        due("30 still", x.count(4), 30);
        due("7 done", x.count(7), 7);
        due("another number of times", x.call(0, 0, 5), true);
        due("one less", x.call(0, 0, 0), true);
        due("one again", x.call(1, 7, 1), true);
        due("and no more", x.call(0, 0, 1), false);
    }

    private static void shoot() {
        CuckooDebt x = threePeople();
        due("not shot already", x.shoot(0, false), false);
        due("shot", x.shoot(0, true), true);
        due("again", x.shoot(0, true), false);
        due("count", x.count(5), 1);
        due("the other", x.shoot(1, true), true);
        due("count", x.count(5), 2);
        due("netted then", x.netted(), 0);
        due("back", x.shoot(0, false), true);
        due("count", x.count(5), 1);
        due("debts again", x.entry(0, 8, 1, false), 8);
        due("calls are still there", x.count(4), 3);
        for (int stray : STRAY) {
            due("bird " + stray, x.shoot(stray, true), false);
            due("bird " + stray, x.shoot(stray, false), false);
        }
        due("bird 2", x.shoot(2, true), false);
    }

    private static void undo() {
        CuckooDebt x = threePeople();
        due("nothing", x.undo(), false);
        x.call(0, 8, 5);
        x.shoot(1, true);
        x.call(0, 8, 0);
        x.told(0, 3);
        x.call(1, 20, 7);
        x.shoot(1, false);
        due("five", x.count(7), 5);
        due("refused ones", x.call(0, 8, 0) || x.shoot(1, false) || x.call(9, 9, 9), false);
        due("five still", x.count(7), 5);
        due("undo", x.undo(), true);
        due("shot again", x.bird(1, 1), 1);
        due("undo", x.undo(), true);
        due("no such call", x.calls(1, 20), 0);
        due("undo", x.undo(), true);
        due("5 times again", x.calls(0, 8), 5);
        due("undo", x.undo(), true);
        due("not shot", x.bird(1, 1), 0);
        due("undo", x.undo(), true);
        due("2 times", x.calls(0, 8), 2);
        due("none left", x.undo(), false);
        due("what is told stays", x.count(6), 1);
        for (int i = 0; i < 23; i++) {
            due("done", x.call(0, i, 9 - i % 2), true);
            due("can be undone", x.count(7), Math.min(20, i + 1));
        }
        for (int i = 22; i >= 3; i--) {
            due("undo", x.undo(), true);
            due("as it was", x.calls(0, i), i == 8 ? 2 : i == 9 ? 1 : 0);
        }
        due("only the last 20", x.undo(), false);
        due("the third is done for good", x.calls(0, 2), 9);
        due("and no redo", x.count(7), 0);
    }

    // ---- 14 to 16

    private static void stand() {
        CuckooDebt x = Check.made("hills 3 3;person a plain at 0 0 purse 0;person b rich at 2 2 purse 9;bird k at 1 1;"
                + "call k hour 0 times 1;call k hour 7 times 1;fog 3 - x;owe 50 * times + near;hear 2;");
        due("stand", x.stand(0, 0, 0, 0), 10);
        due("its balance", x.stand(0, 0, 0, 1), 51);
        due("through both hours", x.stand(0, 0, 7, 0), 10);
        due("its balance", x.stand(0, 0, 7, 1), 102);
        due("through the day", x.stand(0, 0, 23, 1), 102);
        due("b keeps out of its own fog's reach, within a's", x.stand(1, 0, 7, 0), 10);
        due("its balance", x.stand(1, 0, 7, 1), 106);
        due("it is not done", x.place(0, 0), 0);
        due("it is not done", x.balance(0), 0);
        due("hours without calls: the first cell", x.stand(1, 1, 6, 0), 0);
        due("the day's balance", x.stand(1, 1, 6, 1), 0);
        int[][] wrong = {{0, 1, 0, 0}, {0, -1, 3, 0}, {0, 3, 24, 0}, {0, 24, 24, 0}, {0, 0, 0, 2}, {0, 0, 0, -1}, {2, 0, 0, 0}, {-1, 0, 0, 0},
            {0, Integer.MIN_VALUE, 0, 0}, {0, 0, Integer.MAX_VALUE, 0}, {Integer.MAX_VALUE, 0, 0, 1}};
        for (int[] w : wrong) {
            due("stand " + java.util.Arrays.toString(w), Check.answer(() -> x.stand(w[0], w[1], w[2], w[3])), Check.THROWS);
        }
        outsideHours();
    }

    /** Hours outside those that are asked for count for the balance, as told. */
    private static void outsideHours() {
        CuckooDebt x = Check.made("hills 4 4;person a plain at 0 0 purse 0;person b deaf at 3 3 purse 0;go a hour 5 at 1 0;"
                + "bird k at 0 0;call k hour 3 times 1;call k hour 4 times 1;call k hour 5 times 1;call k hour 6 times 1;owe 1+far;hear 5;");
        due("as told", x.balance(0), -(1 + 1 + 2 + 2));
        due("one hour", x.stand(0, 4, 4, 1), -(1 + 2 + 2));
        due("where nothing is heard", x.stand(0, 4, 4, 0), 27);
        due("two hours", x.stand(0, 4, 5, 1), -(1 + 2));
        due("the last", x.stand(0, 6, 23, 1), -(1 + 1 + 2));
        due("the first", x.stand(0, 0, 3, 1), -(1 + 2 + 2));
        due("a shot bird", x.shoot(0, true) ? x.stand(0, 4, 4, 0) : -1, 0);
        due("a shot bird", x.stand(0, 4, 4, 1), 0);
    }

    private static void played() {
        // a gains by being near b, b by being away: round and round
        CuckooDebt x = Check.made("hills 2 2;person a plain at 0 0 purse 0;person b rich at 1 1 purse 0;bird k at 0 0;call k hour 0 times 1;fog 1;");
        due("rounds", x.played(0, 0, 0), 2);
        due("a ring", x.played(0, 0, 1), 0);
        due("a is where it was", x.played(0, 0, 2), 0);
        due("b is where it was", x.played(0, 0, 3), 9);
        due("it is not done", x.place(0, 0), 0);
        due("other hours: rest", x.played(1, 23, 1), 1);
        due("in one round", x.played(1, 23, 0), 1);
        due("all day", x.played(0, 23, 1), 0);
        // from elsewhere: two rounds more come before anybody is where all have been
        CuckooDebt y = Check.made("hills 2 2;person a plain at 0 0 purse 0;person b rich at 0 0 purse 0;bird k at 0 0;call k hour 0 times 1;fog 1;");
        due("rounds", y.played(0, 0, 0), 3);
        due("a ring", y.played(0, 0, 1), 0);
        due("a", y.played(0, 0, 2), 0);
        due("b", y.played(0, 0, 3), 9);
        // b walked at the beginning: to stand still where it set out from is not the same
        String walk = "hills 2 2;person a plain at 0 0 purse 0;person b rich at 1 1 purse 0;go b hour 1 at 0 1;go b hour 2 at 1 1;"
                + "bird k at 0 0;call k hour 0 times 1;fog 1;";
        CuckooDebt v = Check.made(walk);
        for (int to = 1; to < 4; to++) {
            due("rounds", v.played(0, to, 0), 3);
            due("a ring", v.played(0, to, 1), 0);
            due("a", v.played(0, to, 2), 1);
            due("b", v.played(0, to, 3), 8);
        }
        due("it does not walk in the first hour", v.played(0, 0, 0), 2);
        // b walks at the beginning, then stands at the first cell; a, who is paid by how far b is, goes to 1, then to 9
        CuckooDebt u = Check.made("hills 2 2;person a deaf at 0 0 purse 0;person b plain at 0 1 purse 0;go b hour 1 at 1 1;"
                + "bird k at 0 0;call k hour 0 times 1;owe far * 3 + near;");
        int[] ends = {3, 1, 9, 0};
        for (int what = 0; what < ends.length; what++) {
            due("played " + what, u.played(0, 1, what), ends[what]);
        }
        // each owes by how far it is from the bush: all go there, then rest
        CuckooDebt w = Check.made("hills 3 3;person a plain at 0 0 purse 0;person b child at 0 1 purse 0;go a hour 4 at 2 2;"
                + "bird k at 2 1;call k hour 2 times 2;call k hour 4 times 2;owe far;");
        due("a round of moves and one of rest", w.played(2, 2, 0), 2);
        due("rest", w.played(2, 2, 1), 1);
        due("a at the bush", w.played(2, 2, 2), 10);
        due("b at the bush", w.played(2, 2, 3), 10);
        due("through more hours", w.played(0, 4, 0), 2);
        due("where no call is, nobody moves", w.played(3, 3, 0), 1);
        due("a is where it was", w.played(3, 3, 2), 0);
        due("a walks on in hours without calls", w.played(5, 23, 2), 18);
        w.call(0, 2, 0);
        w.call(0, 4, 0);
        due("a walks on: the first of these hours", w.played(0, 23, 2), 0);
        due("rest at once", w.played(0, 23, 0), 1);
        int[][] wrong = {{3, 2, 0}, {-1, 2, 0}, {0, 24, 0}, {24, 24, 0}, {0, 0, -1}, {0, 0, 4}, {0, 0, Integer.MIN_VALUE},
            {0, 0, Integer.MAX_VALUE}, {Integer.MIN_VALUE, 0, 0}, {0, Integer.MAX_VALUE, 0}};
        for (int[] q : wrong) {
            due("played " + java.util.Arrays.toString(q), w.played(q[0], q[1], q[2]), -1);
        }
    }

    /** Play that would go on beyond 50 rounds, and a long one that comes to rest. */
    private static void playedLong() {
        String[] texts = {
            "hills 5 4;person a shy at 4 2 purse 0;person b plain at 0 3 purse 0;person c rich at 0 0 purse 0;person d child at 1 1 purse 0;"
                + "person e plain at 1 3 purse 0;person f rich at 1 1 purse 0;bird p at 2 3;bird q at 3 3;bird r at 3 0;call p hour 1 times 5;"
                + "call q hour 0 times 5;call r hour 1 times 2;owe 10-near;fog 4;hear 7;",
            "hills 5 8;person a plain at 4 2 purse 0;person b rich at 4 2 purse 0;person c plain at 1 2 purse 0;person d shy at 4 2 purse 0;"
                + "person e plain at 4 2 purse 0;person f plain at 4 4 purse 0;bird p at 2 2;bird q at 0 0;bird r at 3 2;call p hour 0 times 5;"
                + "call q hour 0 times 5;call r hour 0 times 4;owe 5+far-near;fog 3;hear 4;",
        };
        int[][] ends = {{50, 0}, {35, 1}};
        for (int i = 0; i < texts.length; i++) {
            CuckooDebt x = new CuckooDebt();
            Oracle oracle = new Oracle();
            tellBoth(x, oracle, texts[i]);
            due("rounds", x.played(0, 1, 0), ends[i][0]);
            due("rest or ring", x.played(0, 1, 1), ends[i][1]);
            for (int what = 0; what < 8; what++) {
                due("played " + what, x.played(0, 1, what), oracle.played(0, 1, what));
            }
        }
    }

    private static void picnic() {
        CuckooDebt x = Check.made("hills 4 2;person a plain at 0 0 purse 0;person b plain at 3 0 purse 0;person c rich at 3 1 purse 0;"
                + "bird k at 0 0;call k hour 6 times 1;call k hour 9 times 1;fog 1;hear 3;");
        // as told nobody of a is near; b 1 to c in each hour, c hears nothing at 4
        due("alone: a is paid by none, c by b", x.picnic(1, 6, 6, 0), 4);
        due("alone: where", x.picnic(1, 6, 6, 1), 11);
        due("alone: what", x.picnic(1, 6, 6, 2), 2);
        due("two: a set", x.picnic(2, 6, 6, 0), 5);
        due("two: where", x.picnic(2, 6, 6, 1), 2);
        due("two: what", x.picnic(2, 6, 6, 2), 2);
        due("all: the set", x.picnic(3, 6, 6, 0), 7);
        due("all: the first cell", x.picnic(3, 6, 6, 1), 0);
        due("all: nothing", x.picnic(3, 6, 6, 2), 0);
        due("no calls in these hours: the least set", x.picnic(1, 0, 5, 0), 4);
        due("but the day's balance", x.picnic(1, 0, 5, 2), 2);
        due("it is not done", x.place(0, 6), 0);
        x.call(0, 6, 0);
        x.call(0, 9, 0);
        due("of equal ones the least set", x.picnic(2, 0, 23, 0), 3);
        due("and the first cell", x.picnic(2, 0, 23, 1), 0);
        int[][] wrong = {{0, 0, 0, 0}, {4, 0, 0, 0}, {-1, 0, 0, 0}, {1, 1, 0, 0}, {1, -1, 0, 0}, {1, 0, 24, 0}, {1, 0, 0, 3}, {1, 0, 0, -1},
            {Integer.MAX_VALUE, 0, 0, 0}, {Integer.MIN_VALUE, 0, 0, 0}};
        for (int[] w : wrong) {
            due("picnic " + java.util.Arrays.toString(w), Check.answer(() -> x.picnic(w[0], w[1], w[2], w[3])), Check.THROWS);
        }
    }

    // ---- 17 to 19

    private static void netted() {
        CuckooDebt x = threePeople();
        due("netted", x.netted(), 40);
        x.shoot(0, true);
        due("netted without k", x.netted(), 11);
        x.shoot(1, true);
        due("netted without all", x.netted(), 0);
    }

    private static void without() {
        CuckooDebt x = threePeople();
        int[][] costs = {{1, -29, 28}, {9, -11, 2}};
        for (int b = 0; b < 2; b++) {
            for (int p = 0; p < 3; p++) {
                int bird = b;
                int person = p;
                due("without " + b + " " + p, Check.answer(() -> x.without(bird, person)), costs[b][p]);
            }
        }
        x.shoot(0, true);
        due("it is shot", Check.answer(() -> x.without(0, 0)), Check.THROWS);
        due("the other one", x.without(1, 1), -11);
        for (int stray : STRAY) {
            due("bird " + stray, Check.answer(() -> x.without(stray, 0)), Check.THROWS);
            due("person " + stray, Check.answer(() -> x.without(1, stray)), Check.THROWS);
        }
        due("bird 2", Check.answer(() -> x.without(2, 0)), Check.THROWS);
        due("person 3", Check.answer(() -> x.without(1, 3)), Check.THROWS);
    }

    private static void told() {
        CuckooDebt x = threePeople();
        due("told", x.told(0, 0), true);
        due("told the same", x.told(0, 0), true);
        due("told", x.told(2, 9999), true);
        due("count", x.count(6), 2);
        due("too much", x.told(0, 10000), false);
        due("below", x.told(0, -2), false);
        due("below", x.told(0, Integer.MIN_VALUE), false);
        due("above", x.told(0, Integer.MAX_VALUE), false);
        due("person 3", x.told(3, 1), false);
        due("person 3, nothing", x.told(3, -1), false);
        for (int stray : STRAY) {
            due("person " + stray, x.told(stray, 1), false);
        }
        due("count", x.count(6), 2);
        due("nothing any more", x.told(0, -1), true);
        due("nothing, again", x.told(0, -1), true);
        due("count", x.count(6), 1);
        due("no undo of it", x.undo(), false);
    }

    // ---- 20 to 22

    private static void songs() {
        CuckooDebt x = threePeople();
        due("nothing is told: all rows", x.sang(8), 36);
        due("the first", x.song(8, 0, 0) * 10 + x.song(8, 0, 1), 0);
        due("the second", x.song(8, 1, 0) * 10 + x.song(8, 1, 1), 1);
        due("the seventh", x.song(8, 6, 0) * 10 + x.song(8, 6, 1), 10);
        due("the last", x.song(8, 35, 0) * 10 + x.song(8, 35, 1), 55);
        due("none such", x.song(8, 36, 0), -1);
        due("none such", x.song(8, -1, 0), -1);
        due("none such", x.song(8, Integer.MAX_VALUE, 0), -1);
        due("none such", x.song(8, Integer.MIN_VALUE, 0), -1);
        // b owes 4 by each call of k, 6 by each call of l in hour 8
        x.told(1, 12);
        due("12 of b", x.sang(8), 2);
        due("twice l", x.song(8, 0, 0) * 10 + x.song(8, 0, 1), 2);
        due("thrice k", x.song(8, 1, 0) * 10 + x.song(8, 1, 1), 30);
        // c owes 12 by k, 8 by l
        x.told(2, 36);
        due("and 36 of c", x.sang(8), 1);
        due("thrice k", x.song(8, 0, 0), 3);
        due("no second row", x.song(8, 1, 0), -1);
        x.told(2, 37);
        due("37 can't be", x.sang(8), 0);
        due("no row", x.song(8, 0, 0), -1);
        x.told(2, -1);
        due("in another hour", x.sang(9), 1);
        due("2 by each of k, 8 by each of l", x.song(9, 0, 0) * 10 + x.song(9, 0, 1), 21);
        due("in an hour without calls as in others", x.sang(20), 1);
        x.shoot(0, true);
        due("without k", x.sang(8), 1);
        due("k is shot", x.song(8, 0, 0), -1);
        due("l twice", x.song(8, 0, 1), 2);
        x.shoot(1, true);
        due("all are shot", x.sang(8), 0);
        x.told(1, 0);
        due("all are shot, nothing owed", x.sang(8), 1);
        due("shot", x.song(8, 0, 1), -1);
        for (int hour : new int[] {-1, 24, Integer.MAX_VALUE, Integer.MIN_VALUE}) {
            due("sang " + hour, x.sang(hour), -1);
            due("song " + hour, x.song(hour, 0, 0), -1);
        }
        x.undo();
        for (int stray : STRAY) {
            due("song of " + stray, x.song(8, 0, stray), -1);
        }
        due("song of 2", x.song(8, 0, 2), -1);
        manySongs();
    }

    private static void manySongs() {
        CuckooDebt x = Check.made("hills 2 2;person a plain at 0 0 purse 0;person b plain at 0 1 purse 0;bird c at 0 0;bird d at 0 0;"
                + "bird e at 0 0;bird f at 0 0;bird g at 0 0;owe times;");
        due("6 to the 5th", x.sang(0), 7776);
        due("row 7775", x.song(0, 7775, 4), 5);
        due("row 1296", x.song(0, 1296, 0), 1);
        due("row 1296", x.song(0, 1296, 4), 0);
        x.told(0, 125);
        due("all five times", x.sang(0), 1);
        x.told(0, 126);
        due("six times is not sung", x.sang(0), 0);
        x.told(0, 1);
        due("one of five", x.sang(0), 5);
        due("the last bird first", x.song(0, 0, 4), 1);
        due("the first bird last", x.song(0, 4, 0), 1);
    }

    private static void wooden() {
        CuckooDebt x = threePeople();
        due("nothing is told", x.wooden(0), 4);
        due("the least", x.wooden(1), 0);
        // c owes 36 by k, 8 by l in the day
        x.told(2, 44);
        due("all sang", x.wooden(0), 1);
        due("all sang", x.wooden(1), 0);
        x.told(2, 36);
        due("l is wooden", x.wooden(1), 2);
        x.told(2, 8);
        due("k is wooden", x.wooden(1), 1);
        x.told(2, 0);
        due("both are", x.wooden(1), 3);
        x.told(1, 1);
        due("it can't be", x.wooden(0), 0);
        due("it can't be", x.wooden(1), -1);
        x.told(1, -1);
        x.shoot(0, true);
        due("k is shot: l is wooden", x.wooden(0), 1);
        due("k is shot: l is wooden", x.wooden(1), 2);
        x.told(2, 8);
        due("k is shot: none is", x.wooden(1), 0);
        x.told(2, 36);
        due("k is shot", x.wooden(0), 0);
        for (int what : new int[] {-1, 2, Integer.MAX_VALUE, Integer.MIN_VALUE}) {
            due("wooden " + what, x.wooden(what), -1);
        }
        CuckooDebt y = Check.made("hills 8 2;person a plain at 0 0 purse 0;person b plain at 1 0 purse 0;bird k at 7 0;bird l at 0 0;"
                + "bird m at 7 1;call k hour 0 times 1;call l hour 0 times 1;call m hour 3 times 1;hear 3;");
        y.told(0, 1);
        due("who makes nothing may be wooden", y.wooden(0), 4);
        y.told(0, 0);
        due("the least", y.wooden(1), 2);
    }

    // ---- 23, 24

    private static void june() {
        CuckooDebt x = Check.made("hills 8 2;person a plain at 1 0 purse 0;person b deaf at 0 0 purse 5;person c plain at 3 0 purse 10;"
                + "bird k at 0 0;call k hour 0 times 1;owe 10;");
        due("c pays a, a pays b in the next round", x.june(-1), 0);
        due("a", x.june(0), 0);
        due("b", x.june(1), 15);
        due("c", x.june(2), 0);
        x.call(0, 0, 2);
        due("c owes 20 and has 10: a still owes too", x.june(-1), 5);
        due("b", x.june(1), 15);
        due("purses as told stay", x.person(2, 1), 10);
        x.shoot(0, true);
        due("nothing is owed", x.june(-1), 0);
        due("a", x.june(2), 10);
        for (int what : new int[] {-2, 3, 6, Integer.MAX_VALUE, Integer.MIN_VALUE}) {
            due("june " + what, x.june(what), -2);
        }
        CuckooDebt y = threePeople();
        // by twos: a 10 to b, c 30 to b
        due("c is ruined", y.june(-1), 4);
        due("a has paid", y.june(0), 0);
        due("b", y.june(1), 12);
        due("c", y.june(2), 0);
        Check.read(x, "hills 2 2;person a plain at 0 0 purse 9;person b deaf at 0 0 purse 0;bird k at 0 0;call k hour 0 times 1;owe 10;");
        due("for a penny", x.june(-1), 1);
        due("all paid but that", x.june(1), 9);
        CuckooDebt z = Check.made("hills 2 2;person a plain at 0 0 purse 0;person b plain at 0 0 purse 0;bird k at 0 0;call k hour 0 times 9;owe 99;");
        due("of two only the difference", z.june(-1), 0);
        // a comes to owe b and c alike: b is paid first
        CuckooDebt w = Check.made("hills 8 2;person a plain at 2 0 purse 7;person b deaf at 1 0 purse 0;person c deaf at 7 0 purse 0;"
                + "go a hour 5 at 6 0;bird k at 0 0;call k hour 0 times 1;call k hour 5 times 1;owe 5;");
        due("a is ruined", w.june(-1), 1);
        due("b", w.june(1), 5);
        due("c", w.june(2), 2);
    }

    private static void marks() {
        CuckooDebt x = threePeople();
        due("nothing on it", x.mark(0, true), false);
        x.call(0, 3, 3);
        x.shoot(1, true);
        x.told(2, 8);
        due("laid", x.mark(3, false), true);
        due("undo is still there", x.count(7), 2);
        x.call(0, 3, 4);
        x.shoot(1, false);
        x.shoot(0, true);
        x.told(2, -1);
        x.told(0, 5);
        due("laid", x.mark(0, false), true);
        due("gone back", x.mark(3, true), true);
        due("calls", x.calls(0, 3), 3);
        due("shot", x.bird(1, 1) * 2 + x.bird(0, 1), 2);
        due("told", x.count(6), 1);
        due("nothing can be undone", x.count(7), 0);
        due("nothing can be undone", x.undo(), false);
        x.call(0, 3, 9);
        due("gone back again", x.mark(3, true), true);
        due("calls", x.calls(0, 3), 3);
        due("the other mark", x.mark(0, true), true);
        due("calls", x.calls(0, 3), 4);
        due("shot", x.bird(1, 1) * 2 + x.bird(0, 1), 1);
        due("told", x.count(6), 1);
        due("laid anew", x.mark(3, false), true);
        x.call(0, 3, 0);
        due("gone back", x.mark(3, true), true);
        due("calls", x.calls(0, 3), 4);
        for (int mark : new int[] {-1, 4, 5, Integer.MAX_VALUE, Integer.MIN_VALUE}) {
            due("mark " + mark, x.mark(mark, false), false);
            due("mark " + mark, x.mark(mark, true), false);
        }
        due("nothing on 1", x.mark(1, true), false);
        x.undo();
        x.call(0, 4, 1);
        due("a wrong mark leaves undo", x.mark(1, true), false);
        due("undo", x.undo(), true);
    }
}
