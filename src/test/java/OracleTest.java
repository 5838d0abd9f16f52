import java.util.ArrayList;
import java.util.HashSet;
import java.util.List;
import java.util.Random;
import java.util.Set;

/** Random runs, the same at every start, on the class and on the oracle side by side. */
public final class OracleTest {
    private static final String[] NAMES = {"ann", "bob", "far", "x", "kuk", "near", "eve", "gok", "y", "abcdefgh", "b", "zz"};
    private static final String[] NOISE = {"hills", "person", "at", "purse", "go", "hour", "bird", "call", "times", "owe",
        "fog", "hear", "plain", "deaf", "not", "and", "or", "ann", "0", "1", "5", "24", "9999", "00001", "(", ")", "<", "=",
        "+", "-", "*", ";", "?", "A", "abcdefghi", "x", "far"};

    private final Random random;
    private final CuckooDebt real = new CuckooDebt();
    private final Oracle oracle = new Oracle();
    private final List<String> log = new ArrayList<>();
    private boolean same = true;

    private OracleTest(long seed) {
        random = new Random(seed);
    }

    public static void main(String[] args) {
        int runs = args.length > 0 ? Integer.parseInt(args[0]) : 400;
        int first = args.length > 1 ? Integer.parseInt(args[1]) : 1;
        for (int seed = first; seed < first + runs && Check.wrongs() < 5; seed++) {
            OracleTest test = new OracleTest(seed);
            int style = seed % 4;
            for (int call = 0; call < 400 && test.same; call++) {
                if (call == 0 || test.random.nextInt(style == 0 ? 6 : 60) == 0) {
                    test.tellHills(style);
                } else {
                    test.step(style == 0 ? 6 : style == 1 && call % 100 > 50 ? 12 : 24);
                }
            }
            if (!test.same) {
                System.out.println("seed " + seed + ": " + String.join("\n  ", test.log));
            }
        }
        Check.end("OracleTest");
    }

    // ---- texts

    private int below(int n) {
        return random.nextInt(n);
    }

    private <T> T any(T[] all) {
        return all[below(all.length)];
    }

    private void tellHills(int style) {
        List<String> tokens = new ArrayList<>();
        int wide = 2 + below(style == 3 ? 7 : 3);
        int deep = 2 + below(style == 3 ? 7 : 3);
        add(tokens, "hills", wide, deep, ";");
        int people = below(8) == 0 ? below(3) : 2 + below(style == 0 ? 6 : 5);
        int birds = below(8) == 0 ? 0 : 1 + below(style == 0 ? 6 : style == 1 ? 5 : 3);
        int slack = style == 0 && below(5) == 0 ? 1 : 0;
        for (int i = 0; i < people; i++) {
            String kind = below(2) == 0 ? "plain" : any(new String[] {"plain", "deaf", "child", "rich", "shy"});
            add(tokens, "person", NAMES[i], kind, "at", below(wide + slack), below(deep + slack), "purse", below(4) * below(200), ";");
        }
        for (int i = 0; i < birds; i++) {
            add(tokens, "bird", NAMES[6 + i], "at", below(wide), below(deep), ";");
        }
        Set<String> once = new HashSet<>();
        for (int i = below(people == 0 ? 1 : 5); i > 0; i--) {
            String name = NAMES[below(people)];
            int hour = 1 + below(style == 0 ? 23 : 8);
            if (once.add(name + hour) || style == 0 && below(5) == 0) {
                add(tokens, "go", name, "hour", hour, "at", below(wide), below(deep), ";");
            }
        }
        for (int i = below(birds == 0 ? 1 : 10); i > 0; i--) {
            String name = NAMES[6 + below(birds)];
            int hour = below(style == 0 ? 24 : 8);
            if (once.add(name + hour) || style == 0 && below(5) == 0) {
                add(tokens, "call", name, "hour", hour, "times", 1 + below(9), ";");
            }
        }
        addLaws(tokens);
        String text = style == 0 && below(3) > 0 ? spoiled(tokens) : joined(tokens);
        feedBoth(text);
        compare("hills", Check.answer(real::hills), Check.answer(oracle::hills), text);
    }

    private void addLaws(List<String> tokens) {
        if (below(4) > 0) {
            tokens.add("owe");
            addTests(tokens, 0, new String[] {"hour", "far", "near", "times"});
            tokens.add(";");
        }
        if (below(3) > 0) {
            tokens.add("fog");
            addTests(tokens, 0, new String[] {"hour", "x", "y"});
            tokens.add(";");
        }
        if (below(3) == 0) {
            add(tokens, "hear", below(15), ";");
        }
    }

    private static void add(List<String> tokens, Object... more) {
        for (Object token : more) {
            tokens.add(token.toString());
        }
    }

    private void addTests(List<String> tokens, int depth, String[] facts) {
        addTest(tokens, depth, facts);
        while (below(6) == 0) {
            tokens.add(below(2) == 0 ? "and" : "or");
            addTest(tokens, depth, facts);
        }
    }

    private void addTest(List<String> tokens, int depth, String[] facts) {
        addSum(tokens, depth, facts);
        if (below(5) == 0) {
            tokens.add(below(2) == 0 ? "<" : "=");
            addSum(tokens, depth, facts);
        }
    }

    private void addSum(List<String> tokens, int depth, String[] facts) {
        addPart(tokens, depth, facts);
        while (below(5) < 2) {
            tokens.add(any(new String[] {"+", "-", "*"}));
            addPart(tokens, depth, facts);
        }
    }

    private void addPart(List<String> tokens, int depth, String[] facts) {
        int what = below(depth >= 4 ? 20 : 24);
        if (what < 10) {
            tokens.add(any(facts));
        } else if (what < 20) {
            tokens.add("" + (below(10) == 0 ? below(10000) : below(12)));
        } else if (what < 22) {
            tokens.add("not");
            addPart(tokens, depth + 1, facts);
        } else {
            tokens.add("(");
            addTests(tokens, depth + 1, facts);
            tokens.add(")");
        }
    }

    private String joined(List<String> tokens) {
        StringBuilder text = new StringBuilder();
        for (String token : tokens) {
            boolean tight = text.length() > 0 && below(2) == 0
                    && !(isLetter(text.charAt(text.length() - 1)) && isLetter(token.charAt(0)))
                    && !(isDigit(text.charAt(text.length() - 1)) && isDigit(token.charAt(0)));
            text.append(tight ? "" : below(9) == 0 ? "\n" : " ").append(token);
        }
        return below(2) == 0 ? text.toString() : text + " ";
    }

    private static boolean isLetter(char sign) {
        return sign >= 'a' && sign <= 'z';
    }

    private static boolean isDigit(char sign) {
        return sign >= '0' && sign <= '9';
    }

    private String spoiled(List<String> tokens) {
        int at = below(tokens.size());
        switch (below(6)) {
            case 0 -> tokens.remove(at);
            case 1 -> tokens.add(at, any(NOISE));
            case 2 -> tokens.set(at, any(NOISE));
            case 3 -> tokens.addAll(at, tokens.subList(at / 2, Math.min(tokens.size(), at / 2 + 6)).stream().toList());
            case 4 -> tokens.subList(at, tokens.size()).clear();
            default -> {
                for (int i = 0; i < 25; i++) {
                    add(tokens, "call", NAMES[6], "hour", i % 24, "times", 2, ";");
                }
            }
        }
        String text = joined(tokens);
        if (below(3) == 0 && text.length() > 0) {
            int cut = below(text.length());
            text = text.substring(0, cut) + (char) below(256) + text.substring(cut);
        }
        return text;
    }

    private void feedBoth(String text) {
        for (int from = 0; from < text.length(); from += 24) {
            long[] bytes = Check.packed(text, from);
            compare("feed", real.feed(bytes[0], bytes[1], bytes[2]), oracle.feed(bytes[0], bytes[1], bytes[2]));
        }
    }

    // ---- calls

    private void compare(String what, Object got, Object want, Object... arguments) {
        StringBuilder call = new StringBuilder(what);
        for (Object argument : arguments) {
            call.append(' ').append(argument);
        }
        log.add(call + " -> " + got);
        same = same && want.equals(got);
        Check.due(call.toString(), got, want);
    }

    /** Mostly a number that is meant; at times one beyond, or far beyond. */
    private int near(int n) {
        int odd = below(40);
        return odd == 0 ? any(new Integer[] {Integer.MIN_VALUE, Integer.MAX_VALUE, -2, 64, 100}) : odd < 4 ? below(n + 3) - 2 : below(Math.max(1, n));
    }

    private void step(int kinds) {
        int people = oracle.count(2);
        int birds = oracle.count(3);
        switch (below(kinds)) {
            case 0 -> ask("count", near(9));
            case 1 -> ask("person", near(people), near(2));
            case 2 -> ask("place", near(people), near(24));
            case 3 -> ask("bird", near(birds), near(3));
            case 4 -> ask("calls", near(birds), near(24));
            case 5 -> ask("entry", near(birds), near(8), near(people), below(2));
            case 6 -> ask("owed", near(people), near(people));
            case 7 -> ask("balance", near(people));
            case 8, 9, 10 -> ask("call", near(birds), near(below(3) == 0 ? 24 : 6), near(10));
            case 11 -> ask("shoot", near(birds), below(2));
            case 12, 13 -> ask("undo");
            case 14 -> {
                int from = below(8);
                ask("stand", near(people), from, from + near(8), near(2));
            }
            case 15 -> playAll();
            case 16 -> {
                int from = below(8);
                ask("picnic", 1 + near(people), from, from + below(8) - below(2), near(3));
            }
            case 17 -> ask("netted");
            case 18 -> ask("without", near(birds), near(people));
            case 19 -> tellDebt(people);
            case 20 -> ask("sang", near(8));
            case 21 -> ask("song", near(8), near(8), near(birds));
            case 22 -> ask(below(2) == 0 ? "wooden" : "june", below(5) == 0 ? near(2) : below(people + 1) - 1);
            default -> ask("mark", near(4), below(2));
        }
    }

    private void playAll() {
        int from = below(8);
        int to = from + below(below(2) == 0 ? 1 : 8) - below(10) / 9;
        for (int what = -1; what <= 2 + oracle.count(2); what++) {
            ask("played", from, to, what);
        }
    }

    /** Debts that can come true: what is owed now by some of the calls. */
    private void tellDebt(int people) {
        int person = near(people);
        int pence = near(30);
        if (below(4) > 0 && person >= 0 && person < people) {
            pence = 0;
            int hour = below(8);
            for (int b = 0; b < oracle.count(3); b++) {
                pence += below(2) == 0 ? oracle.entry(b, hour, person, false) : 0;
            }
        }
        ask("told", person, below(4) == 0 ? -1 : pence);
    }

    private void ask(String what, Integer... a) {
        compare(what, Check.answer(() -> askReal(what, a)), Check.answer(() -> askOracle(what, a)), (Object[]) a);
    }

    private Object askReal(String what, Integer... a) {
        return switch (what) {
            case "count" -> real.count(a[0]);
            case "person" -> real.person(a[0], a[1]);
            case "place" -> real.place(a[0], a[1]);
            case "bird" -> real.bird(a[0], a[1]);
            case "calls" -> real.calls(a[0], a[1]);
            case "entry" -> real.entry(a[0], a[1], a[2], a[3] == 1);
            case "owed" -> real.owed(a[0], a[1]);
            case "balance" -> real.balance(a[0]);
            case "call" -> real.call(a[0], a[1], a[2]);
            case "shoot" -> real.shoot(a[0], a[1] == 1);
            case "undo" -> real.undo();
            case "stand" -> real.stand(a[0], a[1], a[2], a[3]);
            case "played" -> real.played(a[0], a[1], a[2]);
            case "picnic" -> real.picnic(a[0], a[1], a[2], a[3]);
            case "netted" -> real.netted();
            case "without" -> real.without(a[0], a[1]);
            case "told" -> real.told(a[0], a[1]);
            case "sang" -> real.sang(a[0]);
            case "song" -> real.song(a[0], a[1], a[2]);
            case "wooden" -> real.wooden(a[0]);
            case "june" -> real.june(a[0]);
            case "mark" -> real.mark(a[0], a[1] == 1);
            default -> throw new IllegalStateException(what);
        };
    }

    private Object askOracle(String what, Integer... a) {
        return switch (what) {
            case "count" -> oracle.count(a[0]);
            case "person" -> oracle.person(a[0], a[1]);
            case "place" -> oracle.place(a[0], a[1]);
            case "bird" -> oracle.bird(a[0], a[1]);
            case "calls" -> oracle.calls(a[0], a[1]);
            case "entry" -> oracle.entry(a[0], a[1], a[2], a[3] == 1);
            case "owed" -> oracle.owed(a[0], a[1]);
            case "balance" -> oracle.balance(a[0]);
            case "call" -> oracle.call(a[0], a[1], a[2]);
            case "shoot" -> oracle.shoot(a[0], a[1] == 1);
            case "undo" -> oracle.undo();
            case "stand" -> oracle.stand(a[0], a[1], a[2], a[3]);
            case "played" -> oracle.played(a[0], a[1], a[2]);
            case "picnic" -> oracle.picnic(a[0], a[1], a[2], a[3]);
            case "netted" -> oracle.netted();
            case "without" -> oracle.without(a[0], a[1]);
            case "told" -> oracle.told(a[0], a[1]);
            case "sang" -> oracle.sang(a[0]);
            case "song" -> oracle.song(a[0], a[1], a[2]);
            case "wooden" -> oracle.wooden(a[0]);
            case "june" -> oracle.june(a[0]);
            case "mark" -> oracle.mark(a[0], a[1] == 1);
            default -> throw new IllegalStateException(what);
        };
    }
}
