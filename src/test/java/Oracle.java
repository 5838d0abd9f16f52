import java.util.ArrayDeque;
import java.util.ArrayList;
import java.util.Arrays;
import java.util.Deque;
import java.util.HashMap;
import java.util.HashSet;
import java.util.List;
import java.util.Map;
import java.util.NoSuchElementException;
import java.util.Set;
import java.util.TreeMap;

/**
 * A second, plain reading of the document, to hold the class against. It knows no economy:
 * everything is worked out anew at every call, from the words of the document.
 */
final class Oracle {
    static final List<String> KINDS = List.of("plain", "deaf", "child", "rich", "shy");
    static final Set<String> RESERVED = new HashSet<>(List.of("hills", "person", "at", "purse", "go", "hour",
            "bird", "call", "times", "owe", "fog", "hear", "plain", "deaf", "child", "rich", "shy", "not", "and", "or"));

    static final class Fault extends RuntimeException {
        private static final long serialVersionUID = 1L;
        final int number;

        Fault(int kind, int place) {
            number = kind + 16 * place;
        }
    }

    /** An E, to be worked out with facts by name. */
    interface E {
        int of(Map<String, Integer> facts);
    }

    static final class Person {
        String name;
        int kind;
        int purse;
        final TreeMap<Integer, int[]> goes = new TreeMap<>();
    }

    static final class Bird {
        String name;
        int[] cell;
    }

    static final class Hills {
        int wide = 2;
        int deep = 2;
        final List<Person> people = new ArrayList<>();
        final List<Bird> birds = new ArrayList<>();
        final Map<List<Integer>, Integer> calls = new HashMap<>();
        E owe = facts -> 1;
        E fog = facts -> 14;
        int hear = 14;
    }

    static final class State {
        Map<List<Integer>, Integer> calls = new HashMap<>();
        Set<Integer> shot = new HashSet<>();
        Map<Integer, Integer> told = new TreeMap<>();

        State copy() {
            State other = new State();
            other.calls = new HashMap<>(calls);
            other.shot = new HashSet<>(shot);
            other.told = new TreeMap<>(told);
            return other;
        }
    }

    /** One who owes, whom, how much. */
    record Entry(int bird, int hour, int debtor, int creditor, int pence) {
    }

    private String tape = "";
    private Hills hills = new Hills();
    private State state = new State();
    private final Map<Integer, State> marks = new HashMap<>();
    private final Deque<State> past = new ArrayDeque<>();

    int feed(long a, long b, long c) {
        StringBuilder more = new StringBuilder(tape);
        for (long number : new long[] {a, b, c}) {
            for (int i = 7; i >= 0; i--) {
                int sign = (int) (number >> 8 * i) & 0xff;
                if ((sign == 10 || sign > 31 && sign < 127) && more.length() < 1000) {
                    more.append((char) sign);
                }
            }
        }
        tape = more.toString();
        return tape.length();
    }

    int hills() {
        String text = tape;
        tape = "";
        Hills read;
        try {
            read = new OracleReader(text).read();
        } catch (Fault fault) {
            return fault.number;
        }
        hills = read;
        state = new State();
        state.calls.putAll(read.calls);
        marks.clear();
        past.clear();
        return 0;
    }

    // ---- places and debts

    /** Where people are; a stand lays cells over what is told. */
    private int[][][] placesAsTold() {
        int[][][] at = new int[hills.people.size()][24][];
        for (int p = 0; p < at.length; p++) {
            for (int h = 0; h < 24; h++) {
                at[p][h] = hills.people.get(p).goes.floorEntry(h).getValue();
            }
        }
        return at;
    }

    private static int[][][] with(int[][][] at, int person, int from, int to, int[] cell) {
        int[][][] other = new int[at.length][][];
        for (int p = 0; p < at.length; p++) {
            other[p] = at[p].clone();
        }
        for (int h = from; h <= to; h++) {
            other[person][h] = cell;
        }
        return other;
    }

    private static int far(int[] a, int[] b) {
        return Math.abs(a[0] - b[0]) + Math.abs(a[1] - b[1]);
    }

    private Entry entry(int[][][] at, int bird, int hour, int times, int person) {
        int[] here = at[person][hour];
        int far = far(here, hills.birds.get(bird).cell);
        int kind = hills.people.get(person).kind;
        if (times == 0 || far > hills.hear || kind == 1) {
            return null;
        }
        int reach = hills.fog.of(Map.of("hour", hour, "x", here[0], "y", here[1]));
        reach = reach < 0 ? 0 : reach > 14 ? 14 : reach;
        int to = -1;
        for (int q = at.length - 1; q >= 0; q--) {
            if (q != person && far(here, at[q][hour]) <= reach
                    && (to < 0 || far(here, at[q][hour]) <= far(here, at[to][hour]))) {
                to = q;
            }
        }
        if (to < 0) {
            return null;
        }
        int near = far(here, at[to][hour]);
        int pence = hills.owe.of(Map.of("hour", hour, "far", far, "near", near, "times", times));
        pence = (pence < 0 ? 0 : pence > 99 ? 99 : pence) * times;
        if (kind == 2) {
            pence /= 2;
        } else if (kind == 3) {
            pence *= 2;
        } else if (kind == 4 && near >= 3) {
            pence = 0;
        }
        return new Entry(bird, hour, person, to, pence);
    }

    private List<Entry> entries(int[][][] at, Set<Integer> silent) {
        List<Entry> all = new ArrayList<>();
        for (Map.Entry<List<Integer>, Integer> call : state.calls.entrySet()) {
            int bird = call.getKey().get(0);
            for (int p = 0; p < at.length && !silent.contains(bird); p++) {
                Entry entry = entry(at, bird, call.getKey().get(1), call.getValue(), p);
                if (entry != null) {
                    all.add(entry);
                }
            }
        }
        return all;
    }

    private int balance(int[][][] at, Set<Integer> silent, int person) {
        int sum = 0;
        for (Entry entry : entries(at, silent)) {
            sum += (entry.creditor() == person ? entry.pence() : 0) - (entry.debtor() == person ? entry.pence() : 0);
        }
        return sum;
    }

    private int[][] cells() {
        int[][] cells = new int[hills.wide * hills.deep][];
        for (int i = 0; i < cells.length; i++) {
            cells[i] = new int[] {i % hills.wide, i / hills.wide};
        }
        return cells;
    }

    private static int told(int[] cell) {
        return cell[1] * 8 + cell[0];
    }

    private boolean isPerson(int p) {
        return 0 <= p && p < hills.people.size();
    }

    private boolean isBird(int b) {
        return 0 <= b && b < hills.birds.size();
    }

    private static boolean isHour(int h) {
        return 0 <= h && h <= 23;
    }

    private static boolean areHours(int from, int to) {
        return isHour(from) && isHour(to) && from <= to;
    }

    // ---- what is asked

    int person(int p, int what) {
        if (!isPerson(p) || what < 0 || what > 1) {
            return -1;
        }
        return what == 0 ? hills.people.get(p).kind : hills.people.get(p).purse;
    }

    int place(int p, int h) {
        return isPerson(p) && isHour(h) ? told(placesAsTold()[p][h]) : -1;
    }

    int bird(int b, int what) {
        if (!isBird(b) || what < 0 || what > 2) {
            return -1;
        }
        if (what == 2) {
            int sum = 0;
            for (int h = 0; h < 24; h++) {
                sum += calls(b, h);
            }
            return sum;
        }
        return what == 0 ? told(hills.birds.get(b).cell) : state.shot.contains(b) ? 1 : 0;
    }

    int calls(int b, int h) {
        return isBird(b) && isHour(h) ? state.calls.getOrDefault(List.of(b, h), 0) : -1;
    }

    int entry(int b, int h, int p, boolean to) {
        if (!isBird(b) || !isHour(h) || !isPerson(p)) {
            return -1;
        }
        for (Entry entry : entries(placesAsTold(), state.shot)) {
            if (entry.bird() == b && entry.hour() == h && entry.debtor() == p) {
                return to ? entry.creditor() : entry.pence();
            }
        }
        return to ? -1 : 0;
    }

    int owed(int p, int q) {
        if (!isPerson(p) || !isPerson(q) || p == q) {
            return -1;
        }
        return entries(placesAsTold(), state.shot).stream().filter(e -> e.debtor() == p && e.creditor() == q)
                .mapToInt(Entry::pence).sum();
    }

    int balance(int p) {
        if (!isPerson(p)) {
            throw new NoSuchElementException();
        }
        return balance(placesAsTold(), state.shot, p);
    }

    private void remember() {
        past.push(state.copy());
        if (past.size() > 20) {
            past.removeLast();
        }
    }

    boolean call(int b, int h, int times) {
        if (!isBird(b) || !isHour(h) || times < 0 || times > 9 || calls(b, h) == times) {
            return false;
        }
        if (calls(b, h) == 0 && state.calls.size() == 30) {
            return false;
        }
        remember();
        if (times == 0) {
            state.calls.remove(List.of(b, h));
        } else {
            state.calls.put(List.of(b, h), times);
        }
        return true;
    }

    boolean shoot(int b, boolean shot) {
        if (!isBird(b) || state.shot.contains(b) == shot) {
            return false;
        }
        remember();
        if (shot) {
            state.shot.add(b);
        } else {
            state.shot.remove(b);
        }
        return true;
    }

    boolean undo() {
        if (past.isEmpty()) {
            return false;
        }
        Map<Integer, Integer> toldNow = state.told;
        state = past.pop();
        state.told = toldNow;
        return true;
    }

    private int[] bestStand(int[][][] at, int p, int from, int to) {
        int[] best = null;
        for (int[] cell : cells()) {
            int balance = balance(with(at, p, from, to, cell), state.shot, p);
            if (best == null || balance > best[2]) {
                best = new int[] {cell[0], cell[1], balance};
            }
        }
        return best;
    }

    int stand(int p, int from, int to, int what) {
        if (!isPerson(p) || !areHours(from, to) || what < 0 || what > 1) {
            throw new NoSuchElementException();
        }
        int[] best = bestStand(placesAsTold(), p, from, to);
        return what == 0 ? told(best) : best[2];
    }

    private static List<Integer> positions(int[][][] at, int from, int to) {
        List<Integer> all = new ArrayList<>();
        for (int[][] path : at) {
            for (int h = from; h <= to; h++) {
                all.add(told(path[h]));
            }
        }
        return all;
    }

    int played(int from, int to, int what) {
        if (!areHours(from, to) || what < 0 || what > 1 + hills.people.size()) {
            return -1;
        }
        int[][][] at = placesAsTold();
        Set<List<Integer>> seen = new HashSet<>();
        seen.add(positions(at, from, to));
        int round = 0;
        boolean rest = false;
        boolean ring = false;
        while (!rest && !ring) {
            round++;
            rest = true;
            for (int p = 0; p < at.length; p++) {
                int[] best = bestStand(at, p, from, to);
                if (best[2] > balance(at, state.shot, p)) {
                    at = with(at, p, from, to, best);
                    rest = false;
                }
            }
            ring = !rest && (!seen.add(positions(at, from, to)) || round == 50);
        }
        return what == 0 ? round : what == 1 ? (rest ? 1 : 0) : told(at[what - 2][from]);
    }

    int picnic(int many, int from, int to, int what) {
        int people = hills.people.size();
        if (many < 1 || many > people || !areHours(from, to) || what < 0 || what > 2) {
            throw new NoSuchElementException();
        }
        int[] best = null;
        for (int set = 0; set < 1 << people; set++) {
            for (int[] cell : cells()) {
                if (Integer.bitCount(set) == many) {
                    int[][][] at = placesAsTold();
                    for (int p = 0; p < people; p++) {
                        at = (set >> p & 1) == 1 ? with(at, p, from, to, cell) : at;
                    }
                    int sum = 0;
                    for (int p = 0; p < people; p++) {
                        sum += (set >> p & 1) == 1 ? balance(at, state.shot, p) : 0;
                    }
                    if (best == null || sum > best[2]) {
                        best = new int[] {set, told(cell), sum};
                    }
                }
            }
        }
        return best[what];
    }

    int netted() {
        int sum = 0;
        for (int p = 0; p < hills.people.size(); p++) {
            sum += balance(p) > 0 ? balance(p) : 0;
        }
        return sum;
    }

    int without(int b, int p) {
        if (!isBird(b) || !isPerson(p) || state.shot.contains(b)) {
            throw new NoSuchElementException();
        }
        Set<Integer> silent = new HashSet<>(state.shot);
        silent.add(b);
        return balance(placesAsTold(), silent, p) - balance(p);
    }

    boolean told(int p, int pence) {
        if (!isPerson(p) || pence < -1 || pence > 9999) {
            return false;
        }
        if (pence == -1) {
            state.told.remove(p);
        } else {
            state.told.put(p, pence);
        }
        return true;
    }

    private List<int[]> rows(int hour) {
        int birds = hills.birds.size();
        int[][][] at = placesAsTold();
        List<int[]> rows = new ArrayList<>();
        for (int n = 0; n < Math.pow(6, birds); n++) {
            int[] row = new int[birds];
            int rest = n;
            boolean fits = true;
            for (int b = birds - 1; b >= 0; b--) {
                row[b] = rest % 6;
                rest /= 6;
                fits &= row[b] == 0 || !state.shot.contains(b);
            }
            for (Map.Entry<Integer, Integer> told : state.told.entrySet()) {
                int owes = 0;
                for (int b = 0; b < birds && fits; b++) {
                    Entry entry = entry(at, b, hour, row[b], told.getKey());
                    owes += entry == null ? 0 : entry.pence();
                }
                fits = fits && owes == told.getValue();
            }
            if (fits) {
                rows.add(row);
            }
        }
        return rows;
    }

    int sang(int hour) {
        return isHour(hour) ? rows(hour).size() : -1;
    }

    int song(int hour, int i, int b) {
        if (!isHour(hour) || !isBird(b) || state.shot.contains(b)) {
            return -1;
        }
        List<int[]> rows = rows(hour);
        return i < 0 || i >= rows.size() ? -1 : rows.get(i)[b];
    }

    int wooden(int what) {
        if (what != 0 && what != 1) {
            return -1;
        }
        int many = 0;
        int least = -1;
        for (int set = (1 << hills.birds.size()) - 1; set >= 0; set--) {
            Set<Integer> silent = new HashSet<>(state.shot);
            boolean fits = true;
            for (int b = 0; b < hills.birds.size(); b++) {
                if ((set >> b & 1) == 1) {
                    fits &= silent.add(b);
                }
            }
            List<Entry> entries = entries(placesAsTold(), silent);
            for (Map.Entry<Integer, Integer> told : state.told.entrySet()) {
                int owes = entries.stream().filter(e -> e.debtor() == told.getKey()).mapToInt(Entry::pence).sum();
                fits &= owes == told.getValue();
            }
            if (fits) {
                many++;
                least = set;
            }
        }
        return what == 0 ? many : least;
    }

    int june(int what) {
        int people = hills.people.size();
        if (what < -1 || what >= people) {
            return -2;
        }
        int[] purse = new int[people];
        int[][] due = new int[people][people];
        for (int p = 0; p < people; p++) {
            purse[p] = hills.people.get(p).purse;
            for (int q = 0; q < people; q++) {
                due[p][q] = p == q ? 0 : Math.max(0, owed(p, q) - owed(q, p));
            }
        }
        int before = -1;
        int after = 0;
        while (before != after) {
            before = Arrays.stream(due).flatMapToInt(Arrays::stream).sum();
            for (int p = 0; p < people; p++) {
                for (int q = 0; q < people; q++) {
                    int pay = due[p][q] < purse[p] ? due[p][q] : purse[p];
                    due[p][q] -= pay;
                    purse[p] -= pay;
                    purse[q] += pay;
                }
            }
            after = Arrays.stream(due).flatMapToInt(Arrays::stream).sum();
        }
        if (what >= 0) {
            return purse[what];
        }
        int ruined = 0;
        for (int p = 0; p < people; p++) {
            ruined |= Arrays.stream(due[p]).sum() > 0 ? 1 << p : 0;
        }
        return ruined;
    }

    boolean mark(int mark, boolean back) {
        if (mark < 0 || mark > 3 || back && !marks.containsKey(mark)) {
            return false;
        }
        if (back) {
            state = marks.get(mark).copy();
            past.clear();
        } else {
            marks.put(mark, state.copy());
        }
        return true;
    }

    int count(int what) {
        int[] counts = {hills.wide, hills.deep, hills.people.size(), hills.birds.size(), state.calls.size(),
            state.shot.size(), state.told.size(), past.size(), tape.length()};
        return what < 0 || what >= counts.length ? -1 : counts[what];
    }
}
