import java.lang.reflect.InvocationTargetException;
import java.lang.reflect.Method;
import java.util.ArrayList;
import java.util.List;

/**
 * One new object, and calls on it, each written as it is made with the answer that is due:
 * "call(0, 5, 10) = false", "balance(9) = throws". The oracle is asked the same, so that what
 * is due here is what the document asks by its reading too.
 */
final class Run {
    // More are not promised: what later calls answer is free.
    static final int MOST_CALLS = 512;
    private static final int[] SOME_HOURS = {0, 5, 11, 23};
    private static final int MORE_THAN_CAN_BE_UNDONE = 22;

    private final CuckooDebt object = new CuckooDebt();
    private final Oracle oracle = new Oracle();
    private final List<String> made = new ArrayList<>();

    /** Calls with the answers that are due. */
    Run due(String... lines) {
        for (String line : lines) {
            int at = line.indexOf(" = ");
            if (at < 0) {
                throw new AssertionError("no answer in " + line);
            }
            String call = line.substring(0, at);
            String want = line.substring(at + 3).replace("throws", Check.THROWS);
            Check.due(Boundary.now() + ": " + call, ask(call), want);
        }
        return this;
    }

    /** Calls that go before what is asked, whatever they answer. */
    Run first(String... calls) {
        for (String call : calls) {
            ask(call);
        }
        return this;
    }

    /** The signs of a text come behind the tape. */
    Run feed(String text) {
        for (int from = 0; from < text.length(); from += 24) {
            long[] bytes = Check.packed(text, from);
            ask("feed(" + bytes[0] + ", " + bytes[1] + ", " + bytes[2] + ")");
        }
        return this;
    }

    Run hills(String text) {
        return feed(text).due("hills() = 0");
    }

    /** Such a call answers so, and nothing that other calls show is otherwise behind it. */
    Run changesNothing(String... lines) {
        List<String> before = again().picture();
        for (String line : lines) {
            same("behind " + line, again().due(line).picture(), before);
        }
        return this;
    }

    /** A text with a fault, @ before the token that is wrong, changes nothing either. */
    Run faulty(int kind, String text) {
        List<String> before = again().picture();
        Run with = again().feed(text.replace("@", ""));
        with.due("hills() = " + (kind + 16 * text.indexOf('@')));
        same("behind " + text, with.picture(), before);
        return this;
    }

    int calls() {
        return made.size();
    }

    /** Another new object with the same calls. */
    Run again() {
        Run other = new Run();
        for (String call : made) {
            other.ask(call);
        }
        return other;
    }

    private static void same(String what, List<String> got, List<String> want) {
        for (int i = 0; i < Math.max(got.size(), want.size()); i++) {
            String one = i < got.size() ? got.get(i) : "nothing";
            String other = i < want.size() ? want.get(i) : "nothing";
            if (!one.equals(other)) {
                Check.due(Boundary.now() + ": " + what, one, other);
                return;
            }
        }
        Check.due(Boundary.now() + ": " + what, got.size(), want.size());
    }

    /** All that calls show of the state; it is spent then: undone, gone back, read. */
    private List<String> picture() {
        List<String> seen = new ArrayList<>();
        look(seen, "count", 0, 9);
        int people = Integer.parseInt(ask("count(2)"));
        int birds = Integer.parseInt(ask("count(3)"));
        for (int person = 0; person < people; person++) {
            look(seen, "person(" + person + ", 0)", "person(" + person + ", 1)", "balance(" + person + ")");
            for (int hour : SOME_HOURS) {
                look(seen, "place(" + person + ", " + hour + ")");
            }
        }
        for (int bird = 0; bird < birds; bird++) {
            look(seen, "bird(" + bird + ", 0)", "bird(" + bird + ", 1)", "bird(" + bird + ", 2)");
            for (int hour = 0; hour < 24; hour++) {
                look(seen, "calls(" + bird + ", " + hour + ")");
            }
        }
        look(seen, "june", -1, people);
        look(seen, "netted()", "sang(0)", "wooden(0)", "wooden(1)");
        for (int i = 0; i < MORE_THAN_CAN_BE_UNDONE; i++) {
            look(seen, "undo()", "count(4)", "count(5)", "netted()");
        }
        for (int mark = 0; mark < 4; mark++) {
            look(seen, "mark(" + mark + ", true)", "count(4)", "count(5)", "count(6)", "netted()", "wooden(0)");
        }
        look(seen, "hills()");
        look(seen, "count", 0, 5);
        return seen;
    }

    private void look(List<String> seen, String name, int from, int to) {
        for (int i = from; i < to; i++) {
            look(seen, name + "(" + i + ")");
        }
    }

    private void look(List<String> seen, String... calls) {
        for (String call : calls) {
            seen.add(call + " answered " + ask(call));
        }
    }

    private String ask(String call) {
        made.add(call);
        if (made.size() > MOST_CALLS) {
            throw new AssertionError("too many calls for one object: " + Boundary.now());
        }
        String answer = answer(object, call);
        String second = answer(oracle, call);
        if (!answer.equals(second)) {
            Check.due(Boundary.now() + ": " + call + ", by the oracle", answer, second);
        }
        return answer;
    }

    private static String answer(Object object, String call) {
        int open = call.indexOf('(');
        String inside = call.substring(open + 1, call.length() - 1);
        String[] texts = inside.isEmpty() ? new String[0] : inside.split(", ");
        Method method = method(object, call.substring(0, open), texts.length);
        Object[] values = new Object[texts.length];
        for (int i = 0; i < texts.length; i++) {
            values[i] = value(method.getParameterTypes()[i], texts[i]);
        }
        try {
            return String.valueOf(method.invoke(object, values));
        } catch (InvocationTargetException e) {
            return "throws." + e.getCause().getClass().getSimpleName();
        } catch (IllegalAccessException e) {
            throw new AssertionError(e);
        }
    }

    private static Method method(Object object, String name, int parameters) {
        for (Method method : object.getClass().getDeclaredMethods()) {
            boolean isHidden = java.lang.reflect.Modifier.isPrivate(method.getModifiers());
            if (!isHidden && method.getName().equals(name) && method.getParameterCount() == parameters) {
                return method;
            }
        }
        throw new AssertionError("no such call: " + name);
    }

    private static Object value(Class<?> type, String text) {
        if (type == boolean.class) {
            if (!text.equals("true") && !text.equals("false")) {
                throw new AssertionError("neither true nor false: " + text);
            }
            return text.equals("true");
        }
        return type == long.class ? (Object) Long.decode(text) : (Object) Integer.decode(text);
    }
}
