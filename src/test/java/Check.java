import java.util.NoSuchElementException;
import java.util.concurrent.Callable;

/** What the tests share: telling texts to an object, and counting what is not as due. */
final class Check {
    static final String THROWS = "throws.NoSuchElementException";
    private static int checks = 0;
    private static int wrong = 0;

    private Check() {
    }

    static void due(String what, Object got, Object want) {
        checks++;
        if (!want.equals(got)) {
            wrong++;
            System.out.println(what + " answered " + got + ", due is " + want);
        }
    }

    static int checks() {
        return checks;
    }

    static int wrongs() {
        return wrong;
    }

    /** The answer of a call, or the name of what it throws. */
    static Object answer(Callable<?> call) {
        try {
            return call.call();
        } catch (NoSuchElementException e) {
            return e.getClass() == NoSuchElementException.class ? THROWS : "throws." + e.getClass().getName();
        } catch (Exception e) {
            return "throws." + e.getClass().getName();
        }
    }

    static void end(String name) {
        System.out.println(name + ": " + checks + " checks, " + wrong + " wrong");
        if (wrong != 0 || checks == 0) {
            System.exit(1);
        }
    }

    /** The three numbers of the feed that brings the signs from a place on. */
    static long[] packed(String text, int from) {
        long[] bytes = new long[3];
        for (int i = 0; i < 24; i++) {
            int sign = from + i < text.length() ? text.charAt(from + i) : 0;
            bytes[i / 8] = bytes[i / 8] << 8 | sign;
        }
        return bytes;
    }

    static void feed(CuckooDebt x, String text) {
        for (int from = 0; from < text.length(); from += 24) {
            long[] bytes = packed(text, from);
            x.feed(bytes[0], bytes[1], bytes[2]);
        }
    }

    static int read(CuckooDebt x, String text) {
        feed(x, text);
        return x.hills();
    }

    static CuckooDebt made(String text) {
        CuckooDebt x = new CuckooDebt();
        due("hills of " + text, read(x, text), 0);
        return x;
    }
}
