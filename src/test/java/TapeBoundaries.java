/** An object's first and last calls, the tape, and tokens: promises 1, 2 and the beginning of 3. */
final class TapeBoundaries extends Boundary {
    private static final String HEAD = "hills 4 3;person pp plain at 0 0 purse 1;bird bb at 1 1;";

    private TapeBoundaries() {
    }

    static void all() {
        lastCall();
        newHills();
        newAnswers();
        upTo24();
        bytes();
        whichSigns();
        beyond1000();
        howMany();
        most1000();
        lastSign();
        isEmptyThen();
        tokens();
        blanks();
        words();
        numbers();
        signs();
        longerOnes();
    }

    // ---- what it is

    private static void lastCall() {
        sentence(1, "An object is used for at most 512 calls after it has been made; what later calls answer is free.");
        Run run = run("hills 2 2;person a plain at 0 0 purse 5;person b deaf at 0 0 purse 0;bird c at 0 0;");
        int times = 0;
        while (run.calls() < Run.MOST_CALLS - 2) {
            times = times % 9 + 1;
            run.due("call(0, 0, " + times + ") = true");
        }
        run.due("count(7) = 20", "balance(1) = " + times);
        Check.due(now() + ": calls by then", run.calls(), 512);
        Run fed = anew();
        for (int i = 1; i <= 510; i++) {
            fed.due("feed(32, 0, 0) = " + i);
        }
        fed.due("hills() = " + (1 + 16 * 510), "count(8) = 0");
    }

    // ---- promise 1

    private static void newHills() {
        sentence(1, "Hills of 2 by 2, nobody.");
        anew().due("count(0) = 2", "count(1) = 2", "count(2) = 0", "count(3) = 0", "count(4) = 0", "count(5) = 0",
                "count(6) = 0", "count(7) = 0", "count(8) = 0");
    }

    private static void newAnswers() {
        sentence(1, "At first: hills 2 2, nobody.");
        anew().changesNothing("person(0, 0) = -1", "place(0, 0) = -1", "bird(0, 0) = -1", "calls(0, 0) = -1",
                "entry(0, 0, 0, false) = -1", "entry(0, 0, 0, true) = -1", "owed(0, 1) = -1", "balance(0) = throws",
                "call(0, 0, 1) = false", "shoot(0, true) = false", "shoot(0, false) = false", "undo() = false",
                "stand(0, 0, 0, 0) = throws", "played(0, 23, 0) = 1", "played(0, 23, 1) = 1", "played(0, 23, 2) = -1",
                "picnic(0, 0, 0, 0) = throws", "picnic(1, 0, 0, 0) = throws", "netted() = 0", "without(0, 0) = throws",
                "told(0, 0) = false", "told(0, -1) = false", "sang(0) = 1", "song(0, 0, 0) = -1", "wooden(0) = 1",
                "wooden(1) = 0", "june(-1) = 0", "june(0) = -2", "mark(0, true) = false", "mark(3, true) = false");
        anew().due("mark(3, false) = true", "mark(3, true) = true", "count(0) = 2", "count(2) = 0");
    }

    // ---- promise 2

    private static void upTo24() {
        sentence(2, "Up to 24 signs come behind the TAPE");
        anew().due("feed(0, 0, 0) = 0", "count(8) = 0", "hills() = 1");
        anew().due("feed(0, 0, 32) = 1", "count(8) = 1", "feed(0, 0, 0) = 1", "count(8) = 1", "hills() = 17");
        String eight = "0x2020202020202020";
        anew().due("feed(" + eight + ", " + eight + ", 0x20202020202020) = 23", "count(8) = 23");
        anew().due("feed(" + eight + ", " + eight + ", " + eight + ") = 24", "count(8) = 24",
                "feed(" + eight + ", " + eight + ", " + eight + ") = 48", "count(8) = 48", "hills() = " + (1 + 16 * 48));
        // "hills" in one, " 3 4;" in another one: in the other order it is none
        anew().due("feed(0, 0, 0x68696c6c73) = 5", "feed(0x2033, 0x2034, 0x3b) = 10", "hills() = 0", "count(0) = 3", "count(1) = 4");
        anew().due("feed(0x2033, 0x2034, 0x3b) = 5", "feed(0, 0, 0x68696c6c73) = 10", "hills() = 17");
    }

    private static void bytes() {
        sentence(2, "the bytes of a, b, c, of each the highest first");
        // "hills 5 ", "7;person", " a rich "
        anew().due("feed(0x68696c6c73203520, 0x373b706572736f6e, 0x2061207269636820) = 24").feed("at 4 6 purse 0;")
                .due("hills() = 0", "count(0) = 5", "count(1) = 7", "person(0, 0) = 3", "place(0, 0) = 52");
        // a highest byte of 128 and above makes a number negative, and is left out: "hills", "23", ";"
        anew().due("feed(" + (0x8000000000000000L | 0x68696c6c73L) + ", 0x3200330000000000, 0x000000000000003b) = 8", "hills() = 84");
        anew().due("feed(" + (0xff00000000000000L | 0x68696c6c7320L) + ", 0x3220003300000000, 0x3b) = 10", "hills() = 0", "count(1) = 3");
    }

    private static void whichSigns() {
        sentence(2, "others than 10 and 32 .. 126");
        for (int sign : new int[] {0, 1, 9, 11, 13, 31, 127, 128, 160, 255}) {
            for (int at = 0; at < 8; at++) {
                String bytes = String.valueOf((long) sign << 8 * at);
                anew().due("feed(" + bytes + ", 0, 0) = 0", "feed(0, " + bytes + ", 0) = 0", "feed(0, 0, " + bytes + ") = 0",
                        "count(8) = 0", "hills() = 1");
            }
        }
        for (int sign = 0; sign < 256; sign++) {
            boolean isTaken = sign == 10 || sign >= 32 && sign <= 126;
            String bytes = String.valueOf((long) sign << 56);
            anew().due("feed(" + bytes + ", 0, 0) = " + (isTaken ? 1 : 0), "count(8) = " + (isTaken ? 1 : 0));
        }
        // one that is left out parts no word: "hi" and "lls"
        anew().due("feed(0x6869007f096c6c73, 0x2032ff0b20331f3b, 0) = 10", "hills() = 0", "count(1) = 3");
    }

    private static void beyond1000() {
        sentence(2, "and what is beyond 1,000, are left out");
        String body = "hills 2 3" + " ".repeat(989);
        anew().feed(body + ";").due("count(8) = 999", "hills() = 0", "count(1) = 3");
        anew().feed(body + " ;").due("count(8) = 1000", "hills() = 0", "count(1) = 3");
        anew().feed(body + "  ;").due("count(8) = 1000", "hills() = " + (1 + 16 * 1000), "count(1) = 2");
        anew().feed(body + " ;?").due("count(8) = 1000", "hills() = 0", "count(1) = 3");
        anew().feed(body + ";?").due("count(8) = 1000", "hills() = " + (1 + 16 * 999), "count(1) = 2");
        // one feed of which the first signs find room, and the others do not
        Run run = anew().feed(" ".repeat(990)).due("count(8) = 990");
        run.due("feed(0x2020202020202020, 0x3f3f3f3f3f3f3f3f, 0x2020202020202020) = 1000", "count(8) = 1000");
        run.due("feed(0x3f3f3f3f3f3f3f3f, 0, 0) = 1000", "hills() = " + (1 + 16 * 998));
        // what is left out for its sign takes no room
        anew().feed(" ".repeat(998)).due("feed(0x001f7f80ff090b20, 0x0020, 0x003f) = 1000", "hills() = " + (1 + 16 * 1000));
    }

    private static void lastSign() {
        sentence(3, "The TAPE has at most 1,000 signs");
        anew().feed("hills 2" + " ".repeat(992) + "2").due("count(8) = 1000", "hills() = " + (1 + 16 * 1000));
        anew().feed("hills 2" + " ".repeat(992) + "1").due("hills() = " + (4 + 16 * 999));
        anew().feed("hills 2 2;" + " ".repeat(987) + "owe").due("count(8) = 1000", "hills() = " + (1 + 16 * 1000));
        anew().feed("hills 2 2;" + " ".repeat(989) + "+").due("count(8) = 1000", "hills() = " + (1 + 16 * 999));
        anew().feed("hills 2 2;" + " ".repeat(990)).due("count(8) = 1000", "hills() = 0");
        fault(1, "@" + "a".repeat(1000));
        fault(1, "@" + "1".repeat(1000));
    }

    private static void howMany() {
        sentence(2, "how many there are");
        anew().due("feed(0x0061, 0x6200, 0x630064) = 4", "count(8) = 4", "feed(0, 0, 0) = 4", "feed(0x7f, 0x80, 0x1f) = 4",
                "feed(0, 0x3b, 0) = 5", "count(8) = 5", "hills() = 1", "feed(0, 0, 0) = 0", "feed(0, 0, 0x61) = 1");
    }

    private static void most1000() {
        sentence(2, "The TAPE has at most 1,000 signs, 10 and 32 .. 126");
        Run run = anew();
        for (int i = 1; i <= 41; i++) {
            run.feed("\n ~!".repeat(6)).due("count(8) = " + 24 * i);
        }
        run.due("count(8) = 984", "feed(0x0a207e210a207e21, 0x0a207e210a207e00, 0) = 999", "count(8) = 999",
                "feed(0x0a, 0, 0) = 1000", "count(8) = 1000", "feed(0x0a, 0, 0) = 1000", "feed(0, 0x20, 0x7e) = 1000", "count(8) = 1000");
    }

    // ---- promise 3: the tape and its tokens

    private static void isEmptyThen() {
        sentence(3, "what reads it takes it: it is empty then");
        Run run = anew().feed("hills 5 6;").due("count(8) = 10", "hills() = 0", "count(8) = 0", "count(0) = 5");
        run.due("hills() = 1", "count(8) = 0", "count(0) = 5");
        run.feed("hills 7").due("count(8) = 7", "hills() = " + (1 + 16 * 7), "count(8) = 0").feed(" 7;").due("hills() = 17", "count(0) = 5");
        run.feed("hills 3 4;").due("hills() = 0", "count(0) = 3");
        // what stood behind where a text ends now is gone with what was read
        run.feed("hills 2 22;").due("hills() = " + (4 + 16 * 8)).feed("hills 2 2").due("hills() = " + (1 + 16 * 9));
        run.feed("hillsss").due("hills() = 1").feed("hills").due("hills() = " + (1 + 16 * 5));
        run.feed("hills 2 2   ;").due("hills() = 0").feed("hills 2 2 ").due("hills() = " + (1 + 16 * 10)).feed("hills 3 4;").due("hills() = 0");
        // a full one has room again, whether it was read without a fault or with one
        run.feed("hills 6 6" + " ".repeat(990) + ";").due("count(8) = 1000", "hills() = 0", "count(8) = 0", "count(0) = 6");
        run.feed("?".repeat(1001)).due("count(8) = 1000", "hills() = 1", "count(8) = 0").feed("hills 2 8;").due("hills() = 0", "count(1) = 8");
    }

    private static void tokens() {
        sentence(3, "TOKENS, each as long as can be");
        fault(1, "@hillsper 2 2;");
        fault(4, "hills @22;");
        fault(4, "hills @2222;");
        fault(1, HEAD + "@gopp hour 1 at 0 0;");
        fault(1, HEAD + "@personqq plain at 0 0 purse 0;");
        fault(2, HEAD + "call @bbb hour 1 times 1;");
        run(HEAD + "owe 12;").due("count(2) = 1");
        run("hills2 2;person a plain at0 0purse12;").due("person(0, 1) = 12");
    }

    private static void blanks() {
        sentence(3, "blanks (10, 32) between where one likes");
        run("hills 2 2;person a deaf at 0 1 purse 7;").due("person(0, 1) = 7");
        run("\n\n hills\n2 \n 2\n;\n person\na  deaf\nat\n0\n1\npurse\n7\n;\n \n").due("person(0, 1) = 7");
        run("hills2 2;person a deaf at0 1purse7;").due("person(0, 1) = 7");
        fault(1, "@hi lls 2 2;");
        fault(1, "@hi\nlls 2 2;");
        fault(1, "hills 2 2;person a deaf at 0 1 purse 7 @7;");
        fault(1, "hills 2 2;person a deaf at 0 1 purse 7\n@7;");
        fault(1, "  \n@");
        fault(1, "hills 2 2 \n @");
        fault(4, "\n \n  hills\n\n @1");
    }

    private static void words() {
        sentence(3, "WORDS (letters a .. z, 8 at most)");
        for (String name : new String[] {"a", "z", "aa", "az", "zz", "abcdefg", "abcdefgh", "zzzzzzzz"}) {
            run("hills 2 2;bird " + name + " at 1 1;call " + name + " hour 0 times 4;").due("count(3) = 1", "calls(0, 0) = 4");
        }
        fault(1, "hills 2 2;bird @abcdefghi at 1 1;");
        fault(1, "hills 2 2;bird @abcdefghij at 1 1;");
        fault(1, "hills 2 2;bird @" + "z".repeat(900) + " at 1 1;");
        // signs right before a, behind z, and great letters
        for (String sign : new String[] {"`", "{", "A", "Z", "["}) {
            fault(1, "hills 2 2;bird @" + sign + " at 1 1;");
            fault(1, "hills 2 2;bird b@" + sign + " at 1 1;");
        }
        faultAt(1, 15, "hills 2 2;bird @ at 1 1;");
        // two that differ in the eighth letter alone are two
        run("hills 2 2;bird abcdefgh at 0 0;bird abcdefgi at 1 0;bird abcdefg at 1 1;call abcdefgi hour 3 times 1;").due("calls(1, 3) = 1", "calls(0, 3) = 0");
    }

    private static void numbers() {
        sentence(3, "NUMBERS (1 to 4 digits; a letter may stand right behind)");
        String[] texts = {"0", "9", "10", "99", "100", "999", "1000", "9999", "0000", "0009", "007"};
        for (String text : texts) {
            run("hills 2 2;person a deaf at 0 0 purse " + text + ";").due("person(0, 1) = " + Integer.parseInt(text));
        }
        for (String text : new String[] {"00000", "00009", "10000", "99999", "0".repeat(900)}) {
            fault(1, "hills 2 2;person a deaf at 0 0 purse @" + text + ";");
        }
        run("hills 0002 0008;").due("count(0) = 2", "count(1) = 8");
        run(HEAD + "go pp hour 1at 2 2;call bb hour 23times 9;owe 1and 2or 0;").due("place(0, 1) = 18", "calls(0, 23) = 9");
        run("hills 2 2;person a deaf at 0 0purse 9999;").due("person(0, 1) = 9999");
        fault(1, "hills @00022x 2;");
        // signs right before 0 and behind 9
        fault(1, "hills 2 2;person a deaf at 0 0 purse @/;");
        fault(1, "hills 2 2;person a deaf at 0 0 purse @:;");
        fault(1, "hills 2 2;person a deaf at 0 0 purse 1@/;");
        fault(1, "hills 2 2;person a deaf at 0 0 purse 1@:;");
    }

    private static void signs() {
        sentence(3, "the signs ( ) < = + - * ;");
        String known = "()<=+-*;";
        run("hills 2 2;person a plain at 0 0 purse 0;person b deaf at 0 0 purse 0;bird c at 0 0;call c hour 0 times 1;"
                + "owe(((5-3)*4+1)<9)+(2=2);").due("entry(0, 0, 0, false) = 1");
        for (int sign = 33; sign < 127; sign++) {
            boolean isOther = !Character.isLetterOrDigit(sign) && known.indexOf(sign) < 0;
            if (isOther) {
                String before = "hills 2 2;owe 1";
                faultAt(1, before.length(), before + (char) sign + "1;");
                faultAt(1, before.length() + 1, before + " " + (char) sign + ";");
            }
        }
        for (int i = 0; i < known.length(); i++) {
            faultAt(1, 0, known.charAt(i) + "hills 2 2;");
        }
    }

    private static void longerOnes() {
        sentence(3, "All else (a longer WORD or NUMBER, too, at its first sign) is none.");
        fault(1, HEAD + "owe @farfarfar;");
        fault(1, HEAD + "owe 1+ @12345;");
        fault(1, HEAD + "owe 1 @123456789;");
        fault(1, HEAD + "go @ppppppppp hour 1;");
        fault(1, HEAD + "@personpers pp;");
        fault(1, HEAD + "hear @00014;");
        fault(1, HEAD + "hear 14@?;");
        fault(1, HEAD + "hear @?14;");
    }
}
