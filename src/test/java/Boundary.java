import java.io.IOException;
import java.nio.file.Files;
import java.nio.file.Path;
import java.util.ArrayList;
import java.util.LinkedHashMap;
import java.util.List;
import java.util.Map;

/**
 * What the tests of boundary cases share. Each begins with the number of a promise and the
 * words of the document that name the case; at the end these words are looked for in the
 * document, in that promise's section or in what stands before the promises, and no clause
 * there may be left without a test.
 */
abstract class Boundary {
    static final String GREAT = String.valueOf(Integer.MAX_VALUE);
    static final String SMALL = String.valueOf(Integer.MIN_VALUE);
    private static final Path DOCUMENT = Path.of("../shared/DOC.md");
    private static final String TERMS = "Terms";
    private static final String WHAT_IT_IS = "What it is";

    private static final List<Integer> PROMISES = new ArrayList<>();
    private static final List<String> WORDS = new ArrayList<>();
    private static int checksBefore = 0;

    static void sentence(int promise, String words) {
        seal();
        PROMISES.add(promise);
        WORDS.add(words);
    }

    /** Which sentence is being tested. */
    static String now() {
        int last = WORDS.size() - 1;
        return last < 0 ? "no sentence" : "promise " + PROMISES.get(last) + ", '" + WORDS.get(last) + "'";
    }

    static void end() {
        seal();
        for (int promise = 1; promise <= 25; promise++) {
            Check.due("promise " + promise + " has a test", PROMISES.contains(promise), true);
        }
        if (Files.exists(DOCUMENT)) {
            compareWithDocument();
        } else {
            System.out.println("no " + DOCUMENT + " here: its words are not looked for");
        }
    }

    private static void seal() {
        if (!WORDS.isEmpty()) {
            Check.due(now() + " is tested", Check.checks() > checksBefore, true);
        }
        checksBefore = Check.checks();
    }

    // ---- objects

    static Run anew() {
        return new Run();
    }

    static Run run(String hills) {
        return new Run().hills(hills);
    }

    /** A text with its fault: @ stands before the token that is wrong, and is not fed. */
    static void fault(int kind, String text) {
        faultAt(kind, text.indexOf('@'), text.replace("@", ""));
    }

    static void faultAt(int kind, int place, String text) {
        Run run = anew().feed(text);
        run.due("count(8) = " + text.length(), "hills() = " + (kind + 16 * place), "count(8) = 0", "count(0) = 2", "count(2) = 0");
    }

    static void fine(String text) {
        run(text);
    }

    // ---- the document

    private static void compareWithDocument() {
        Map<String, String> sections = sections();
        Map<String, boolean[]> tested = new LinkedHashMap<>();
        sections.forEach((name, text) -> tested.put(name, new boolean[text.length()]));
        for (int i = 0; i < WORDS.size(); i++) {
            boolean found = find(sections, tested, "Promise " + PROMISES.get(i), WORDS.get(i))
                    | find(sections, tested, TERMS, WORDS.get(i)) | find(sections, tested, WHAT_IT_IS, WORDS.get(i));
            Check.due("words of promise " + PROMISES.get(i) + ", '" + WORDS.get(i) + "', stand in the document", found, true);
        }
        sections.forEach((name, text) -> findUntested(name, text, tested.get(name)));
    }

    private static boolean find(Map<String, String> sections, Map<String, boolean[]> tested, String name, String words) {
        String text = sections.getOrDefault(name, "");
        int at = text.indexOf(words);
        for (int i = at; at >= 0 && i < at + words.length(); i++) {
            tested.get(name)[i] = true;
        }
        return at >= 0;
    }

    /** A clause ends where a stop stands; one counts as tested if a test bears a word of it. */
    private static void findUntested(String name, String text, boolean[] tested) {
        int from = 0;
        for (int i = 0; i < text.length(); i++) {
            boolean isStop = i + 1 == text.length() || ".;:".indexOf(text.charAt(i)) >= 0 && text.charAt(i + 1) == ' ';
            if (isStop) {
                String clause = text.substring(from, i + 1).strip();
                boolean isTested = clause.length() < 3;
                for (int k = from; k <= i; k++) {
                    isTested |= tested[k];
                }
                Check.due(name + ", '" + clause + "' has a test", isTested, true);
                from = i + 1;
            }
        }
    }

    /** The parts of the document that promise something, without what is only code, each in one line. */
    private static Map<String, String> sections() {
        Map<String, String> sections = new LinkedHashMap<>();
        try {
            for (String part : Files.readString(DOCUMENT).split("\n## ")) {
                String name = part.lines().findFirst().orElse("");
                String body = part.substring(name.length()).replaceAll("```(text)?|==== [23]\\.", " ").replaceAll("\\s+", " ").strip();
                if (name.startsWith("Promise ")) {
                    sections.put(name.replaceAll(":.*", ""), body.replaceFirst("`[^`]*`: ", ""));
                } else if (name.equals(TERMS)) {
                    sections.put(name, body.replaceFirst(" The constants:.*", ""));
                } else if (name.equals(WHAT_IT_IS)) {
                    sections.put(name, body.replaceFirst(".*==== 1\\. ", ""));
                }
            }
        } catch (IOException e) {
            throw new AssertionError(e);
        }
        return sections;
    }
}
