import java.util.HashSet;
import java.util.List;
import java.util.Map;
import java.util.Set;
import java.util.regex.Matcher;
import java.util.regex.Pattern;

/** Reads a text as the document tells it, and throws its fault. */
final class OracleReader {
    private static final Pattern TOKEN = Pattern.compile("[\\n ]*(?:(?<word>[a-z]+)|(?<number>[0-9]+)|(?<sign>[()<=+*;-])|(?<other>.)|$)");

    private final String text;
    private final Oracle.Hills hills = new Oracle.Hills();
    private final Set<String> once = new HashSet<>();
    private int goes = 0;
    private int at = 0;
    private int place;
    private String token;
    private String kind;

    OracleReader(String text) {
        this.text = text;
    }

    private void next() {
        Matcher matcher = TOKEN.matcher(text).region(at, text.length());
        if (!matcher.lookingAt()) {
            throw new IllegalStateException("no token at " + at);
        }
        for (String group : List.of("word", "number", "sign", "other")) {
            if (matcher.group(group) != null) {
                token = matcher.group(group);
                place = matcher.start(group);
                boolean tooLong = group.equals("word") && token.length() > 8 || group.equals("number") && token.length() > 4;
                kind = tooLong ? "other" : group;
                at = matcher.end();
                return;
            }
        }
        token = "";
        kind = "end";
        place = text.length();
        at = text.length();
    }

    private Oracle.Fault fault(int number) {
        return new Oracle.Fault(number, place);
    }

    private boolean is(String what) {
        return token.equals(what) && !kind.equals("other");
    }

    private void take(String what) {
        if (!is(what)) {
            throw fault(1);
        }
        next();
    }

    private int number(int least, int most) {
        if (!kind.equals("number")) {
            throw fault(1);
        }
        int number = Integer.parseInt(token);
        if (number < least || number > most) {
            throw fault(4);
        }
        return number;
    }

    private int takeNumber(int least, int most) {
        int number = number(least, most);
        next();
        return number;
    }

    private int[] takeCell() {
        int x = takeNumber(0, hills.wide - 1);
        return new int[] {x, takeNumber(0, hills.deep - 1)};
    }

    private String name() {
        if (!kind.equals("word") || Oracle.RESERVED.contains(token)) {
            throw fault(1);
        }
        return token;
    }

    private int personNamed(String name) {
        for (int i = 0; i < hills.people.size(); i++) {
            if (hills.people.get(i).name.equals(name)) {
                return i;
            }
        }
        return -1;
    }

    private int birdNamed(String name) {
        for (int i = 0; i < hills.birds.size(); i++) {
            if (hills.birds.get(i).name.equals(name)) {
                return i;
            }
        }
        return -1;
    }

    Oracle.Hills read() {
        next();
        take("hills");
        hills.wide = takeNumber(2, 8);
        hills.deep = takeNumber(2, 8);
        take(";");
        while (!kind.equals("end")) {
            String line = kind.equals("word") ? token : "";
            switch (line) {
                case "person" -> person();
                case "go" -> go();
                case "bird" -> bird();
                case "call" -> call();
                case "owe", "fog", "hear" -> law(line);
                default -> throw fault(1);
            }
            take(";");
        }
        return hills;
    }

    private void newName(int many, int most, java.util.function.Consumer<String> keep) {
        if (many == most) {
            throw fault(5);
        }
        next();
        String name = name();
        if (personNamed(name) >= 0 || birdNamed(name) >= 0) {
            throw fault(3);
        }
        keep.accept(name);
        next();
    }

    private void person() {
        Oracle.Person person = new Oracle.Person();
        newName(hills.people.size(), 6, name -> person.name = name);
        person.kind = kind.equals("word") ? Oracle.KINDS.indexOf(token) : -1;
        if (person.kind < 0) {
            throw fault(1);
        }
        next();
        take("at");
        person.goes.put(0, takeCell());
        take("purse");
        person.purse = takeNumber(0, 9999);
        hills.people.add(person);
    }

    private void bird() {
        Oracle.Bird bird = new Oracle.Bird();
        newName(hills.birds.size(), 5, name -> bird.name = name);
        take("at");
        bird.cell = takeCell();
        hills.birds.add(bird);
    }

    private void go() {
        if (goes == 20) {
            throw fault(5);
        }
        next();
        int who = personNamed(name());
        if (who < 0) {
            throw fault(2);
        }
        next();
        take("hour");
        int hour = number(1, 23);
        if (hills.people.get(who).goes.containsKey(hour)) {
            throw fault(3);
        }
        next();
        take("at");
        hills.people.get(who).goes.put(hour, takeCell());
        goes++;
    }

    private void call() {
        if (hills.calls.size() == 30) {
            throw fault(5);
        }
        next();
        int bird = birdNamed(name());
        if (bird < 0) {
            throw fault(2);
        }
        next();
        take("hour");
        int hour = number(0, 23);
        if (hills.calls.containsKey(List.of(bird, hour))) {
            throw fault(3);
        }
        next();
        take("times");
        hills.calls.put(List.of(bird, hour), takeNumber(1, 9));
    }

    private void law(String line) {
        if (!once.add(line)) {
            throw fault(3);
        }
        next();
        switch (line) {
            case "owe" -> hills.owe = tests(0, Set.of("hour", "far", "near", "times"));
            case "fog" -> hills.fog = tests(0, Set.of("hour", "x", "y"));
            default -> hills.hear = takeNumber(0, 14);
        }
    }

    private Oracle.E tests(int depth, Set<String> facts) {
        Oracle.E value = test(depth, facts);
        while (is("and") || is("or")) {
            boolean and = is("and");
            next();
            Oracle.E left = value;
            Oracle.E right = test(depth, facts);
            value = f -> {
                boolean a = left.of(f) != 0;
                boolean b = right.of(f) != 0;
                return (and ? a & b : a | b) ? 1 : 0;
            };
        }
        return value;
    }

    private Oracle.E test(int depth, Set<String> facts) {
        Oracle.E left = sum(depth, facts);
        if (!is("<") && !is("=")) {
            return left;
        }
        boolean less = is("<");
        next();
        Oracle.E right = sum(depth, facts);
        return f -> (less ? left.of(f) < right.of(f) : left.of(f) == right.of(f)) ? 1 : 0;
    }

    private Oracle.E sum(int depth, Set<String> facts) {
        Oracle.E value = product(depth, facts);
        while (is("+") || is("-")) {
            int sign = is("+") ? 1 : -1;
            next();
            Oracle.E left = value;
            Oracle.E right = product(depth, facts);
            value = f -> left.of(f) + sign * right.of(f);
        }
        return value;
    }

    private Oracle.E product(int depth, Set<String> facts) {
        Oracle.E value = part(depth, facts);
        while (is("*")) {
            next();
            Oracle.E left = value;
            Oracle.E right = part(depth, facts);
            value = f -> left.of(f) * right.of(f);
        }
        return value;
    }

    private Oracle.E part(int depth, Set<String> facts) {
        boolean isFact = kind.equals("word") && facts.contains(token);
        if (!kind.equals("number") && !isFact && !is("not") && !is("(")) {
            throw fault(1);
        }
        if (depth == 5) {
            throw fault(5);
        }
        String first = token;
        boolean isNumber = kind.equals("number");
        next();
        if (first.equals("not")) {
            Oracle.E inner = part(depth + 1, facts);
            return f -> inner.of(f) == 0 ? 1 : 0;
        }
        if (first.equals("(")) {
            Oracle.E inner = tests(depth + 1, facts);
            take(")");
            return inner;
        }
        int number = isNumber ? Integer.parseInt(first) : 0;
        return isNumber ? f -> number : (Map<String, Integer> f) -> f.get(first);
    }
}
